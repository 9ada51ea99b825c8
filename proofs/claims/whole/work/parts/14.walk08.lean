set_option maxRecDepth 100000 in
theorem q_Mo_chains_b52 {C : Cx} {nx : Nat} (hnx : 100 ≤ nx) {Qr : Option Value → Hp → Prop} {Qx : String → Hp → Prop}  (x1 : Int) (x3 : Int) (t0 : Int) (t1 : Int) (s : Sg) {o : ((Int × Int) ⊕ (Int))} (hs : Mo_chains_b52 x1 x3 t0 t1 s = some o) (hb : ∀ σ : Int × Int, o = .inl σ → ww C M_X12_chains 6 0 0 nx (Qr) (Qx) nx 0 0 19 [(0, .ref 80), (1, vi x1), (2, vi σ.1), (3, vi σ.2)] [] (hp nx s)) (he0 : ∀ ρ : Int, o = .inr ρ → ww C M_X12_chains 6 0 0 nx (Qr) (Qx) nx 0 0 60 [(2, vi ρ)] [] (hp nx s)) : ww C M_X12_chains 6 0 0 nx (Qr) (Qx) nx 0 0 52 [(0, .ref 80), (1, vi x1), (3, vi x3)] [vi t1, vi t0] (hp nx s) := by
  unfold Mo_chains_b52 at hs
  refine x_iadd dX12_chains_52 ?_
  refine x_istore_n (fun x2_7 => [(2, vi x2_7), (0, .ref 80), (1, vi x1), (3, vi x3)]) hs dX12_chains_53 rfl (Nat.le_of_ble_eq_true rfl) (fun _ => rfl) (fun x2_7 hs => ?_)
  refine x_iinc (lv' := [(3, vi (x3 + 1)), (2, vi x2_7), (0, .ref 80), (1, vi x1)]) 3 dX12_chains_54 rfl (Nat.le_of_ble_eq_true rfl) rfl ?_
  refine w_goto dX12_chains_57 rfl ?_
  refine w_lv (lv' := [(0, .ref 80), (1, vi x1), (2, vi x2_7), (3, vi (x3 + 1))]) [2, 3, 1, 0] rfl ?_
  cases hs
  exact hb _ rfl
set_option maxRecDepth 100000 in
theorem q_Mo_chains_b51 {C : Cx} {nx : Nat} (hnx : 100 ≤ nx) {Qr : Option Value → Hp → Prop} {Qx : String → Hp → Prop}  (x1 : Int) (x3 : Int) (t0 : Int) (s : Sg) {o : ((Int × Int) ⊕ (Int))} (hs : Mo_chains_b51 x1 x3 t0 s = some o) (hb : ∀ σ : Int × Int, o = .inl σ → ww C M_X12_chains 6 0 0 nx (Qr) (Qx) nx 0 0 19 [(0, .ref 80), (1, vi x1), (2, vi σ.1), (3, vi σ.2)] [] (hp nx s)) (he0 : ∀ ρ : Int, o = .inr ρ → ww C M_X12_chains 6 0 0 nx (Qr) (Qx) nx 0 0 60 [(2, vi ρ)] [] (hp nx s)) : ww C M_X12_chains 6 0 0 nx (Qr) (Qx) nx 0 0 51 [(0, .ref 80), (1, vi x1), (3, vi x3)] [vi t0] (hp nx s) := by
  unfold Mo_chains_b51 at hs
  refine x_iconst dX12_chains_51 ?_
  exact q_Mo_chains_b52 hnx x1 x3 t0 0 s hs hb he0
set_option maxRecDepth 100000 in
theorem q_Mo_chains_t19 {C : Cx} {nx : Nat} (hnx : 100 ≤ nx) {Qr : Option Value → Hp → Prop} {Qx : String → Hp → Prop}  (x1 : Int) (x2 : Int) (x3 : Int) (s : Sg) {o : ((Int × Int) ⊕ (Int))} (hs : Mo_chains_t19 x1 x2 x3 s = some o) (hb : ∀ σ : Int × Int, o = .inl σ → ww C M_X12_chains 6 0 0 nx (Qr) (Qx) nx 0 0 19 [(0, .ref 80), (1, vi x1), (2, vi σ.1), (3, vi σ.2)] [] (hp nx s)) (he0 : ∀ ρ : Int, o = .inr ρ → ww C M_X12_chains 6 0 0 nx (Qr) (Qx) nx 0 0 60 [(2, vi ρ)] [] (hp nx s)) : ww C M_X12_chains 6 0 0 nx (Qr) (Qx) nx 0 0 19 [(0, .ref 80), (1, vi x1), (2, vi x2), (3, vi x3)] [] (hp nx s) := by
  unfold Mo_chains_t19 at hs
  refine w_iload_n 3 dX12_chains_19 rfl rfl ?_
  refine w_aload_n 0 dX12_chains_20 rfl rfl ?_
  refine x_V_I M_X12_cells [] [vi x3] hs rfl dX12_chains_21 (lkX12_212 _ rfl) (lt_of hnx (Nat.le_of_ble_eq_true rfl)) rfl rfl (Nat.le_of_ble_eq_true rfl) (Nat.le_of_ble_eq_true rfl) (Nat.le_of_ble_eq_true rfl) (Nat.le_of_ble_eq_true rfl) (c_Mo_cells hnx s) (fun y5 hy5 hs => ?_)
  refine x_icmpge hs dX12_chains_24 rfl (fun hs => ?_) (fun hs => ?_)
  · refine w_lv (lv' := [(2, vi x2)]) [2] rfl ?_
    cases hs
    exact he0 _ rfl
  · refine w_iload_n 2 dX12_chains_27 rfl rfl ?_
    refine w_aload_n 0 dX12_chains_28 rfl rfl ?_
    refine w_iload_n 3 dX12_chains_29 rfl rfl ?_
    refine x_V_I M_X12_stone [vi x3] [vi x2] hs rfl dX12_chains_30 (lkX12_215 _ rfl) (lt_of hnx (Nat.le_of_ble_eq_true rfl)) rfl rfl (Nat.le_of_ble_eq_true rfl) (Nat.le_of_ble_eq_true rfl) (Nat.le_of_ble_eq_true rfl) (Nat.le_of_ble_eq_true rfl) (c_Mo_stone hnx x3 s) (fun y6 hy6 hs => ?_)
    refine w_iload_n 1 dX12_chains_33 rfl rfl ?_
    refine x_icmpne hs dX12_chains_34 rfl (fun hs => ?_) (fun hs => ?_)
    · refine w_lv (lv' := [(0, .ref 80), (1, vi x1), (3, vi x3)]) [0, 1, 3] rfl ?_
      exact q_Mo_chains_b51 hnx x1 x3 x2 s hs hb he0
    · refine w_aload_n 0 dX12_chains_37 rfl rfl ?_
      refine x_getR 12 28 (b := 94) dX12_chains_38 (fxX12_55 rfl) rfl rfl (lt_of hnx (Nat.le_of_ble_eq_true rfl)) rfl ?_
      refine w_iload_n 3 dX12_chains_41 rfl rfl ?_
      refine grd_e hs (fun hg8 hs => ?_)
      refine x_iald hg8 (Nat.le_of_ble_eq_true rfl) dX12_chains_42 (Or.inl ⟨rfl, (lt_of hnx (Nat.le_of_ble_eq_true rfl))⟩) ?_
      refine w_iload_n 3 dX12_chains_43 rfl rfl ?_
      refine x_icmpne hs dX12_chains_44 rfl (fun hs => ?_) (fun hs => ?_)
      · refine w_lv (lv' := [(0, .ref 80), (1, vi x1), (3, vi x3)]) [0, 1, 3] rfl ?_
        exact q_Mo_chains_b51 hnx x1 x3 x2 s hs hb he0
      · refine x_iconst dX12_chains_47 ?_
        refine w_goto dX12_chains_48 rfl ?_
        refine w_lv (lv' := [(0, .ref 80), (1, vi x1), (3, vi x3)]) [0, 1, 3] rfl ?_
        exact q_Mo_chains_b52 hnx x1 x3 x2 1 s hs hb he0
set_option maxRecDepth 100000 in
theorem q_Mo_chains_l19 {C : Cx} {nx : Nat} (hnx : 100 ≤ nx) (x1 : Int) (x2 : Int) (x3 : Int) (s : Sg) {o : Int × Sg} (hs : Mo_chains_l19 x1 x2 x3 s = some o) : ww C M_X12_chains 6 0 0 nx (QI nx o.2 o.1) (XF) nx 0 0 19 [(0, .ref 80), (1, vi x1), (2, vi x2), (3, vi x3)] [] (hp nx s) := by
  unfold Mo_chains_l19 at hs
  refine bnd_e hs (fun x2_9 hw hs => ?_)
  have hE : ww C M_X12_chains 6 0 0 nx (QI nx o.2 o.1) (XF) nx 0 0 60 [(2, vi x2_9)] [] (hp nx s) := by
    refine w_iload_n 0 dX12_chains_60 rfl rfl ?_
    cases hs
    exact x_ireturn dX12_chains_61 rfl rfl (Nat.le_of_ble_eq_true rfl) (Nat.le_of_ble_eq_true rfl) ⟨rfl, rfl⟩
  refine whl_w (P := fun σ => ww C M_X12_chains 6 0 0 nx (QI nx o.2 o.1) (XF) nx 0 0 19 [(0, .ref 80), (1, vi x1), (2, vi σ.1), (3, vi σ.2)] [] (hp nx s)) (E := fun ρ => ρ = x2_9) hw rfl ?_
  intro σ o' hs' hb' he'
  exact q_Mo_chains_t19 hnx x1 σ.1 σ.2 s hs' hb' (fun ρ e => by cases he' _ e; exact hE)
set_option maxRecDepth 100000 in
theorem c_Mo_chains {C : Cx} {nx : Nat} (hnx : 100 ≤ nx) (x1 : Int) (s : Sg) : ∀ o, Mo_chains x1 s = some o → mm C M_X12_chains 6 0 0 nx nx [.ref 80, vi x1] (hp nx s) (QI nx o.2 o.1) (XF) := by
  intro o hs
  unfold Mo_chains at hs
  refine mm_of rfl rfl (Nat.le_of_ble_eq_true rfl) ?_
  show ww C M_X12_chains 6 0 0 nx (QI nx o.2 o.1) (XF) nx 0 0 0 [(0, .ref 80), (1, vi x1)] [] (hp nx s)
  refine w_aload_n 0 dX12_chains_0 rfl rfl ?_
  refine w_iload_n 1 dX12_chains_1 rfl rfl ?_
  refine x_V_B M_X12_noSide [vi x1] [] hs rfl dX12_chains_2 (lkX12_323 _ rfl) (lt_of hnx (Nat.le_of_ble_eq_true rfl)) rfl rfl (Nat.le_of_ble_eq_true rfl) (Nat.le_of_ble_eq_true rfl) (Nat.le_of_ble_eq_true rfl) (Nat.le_of_ble_eq_true rfl) (c_Mo_noSide hnx x1 s) (fun y1 s2 hy1 hs => ?_)
  refine x_ifeq hs dX12_chains_5 rfl (fun hs => ?_) (fun hs => ?_)
  · refine w_aload_n 0 dX12_chains_10 rfl rfl ?_
    refine w_iload_n 1 dX12_chains_11 rfl rfl ?_
    refine x_V_V M_X12_laysChains [vi x1] [] hs rfl dX12_chains_12 (lkX12_328 _ rfl) (lt_of hnx (Nat.le_of_ble_eq_true rfl)) rfl rfl (Nat.le_of_ble_eq_true rfl) (Nat.le_of_ble_eq_true rfl) (Nat.le_of_ble_eq_true rfl) (Nat.le_of_ble_eq_true rfl) (c_Mo_laysChains hnx x1 s2) (fun s4 hs4 hs => ?_)
    refine x_iconst dX12_chains_15 ?_
    refine w_istore_n (lv' := [(2, vi 0), (0, .ref 80), (1, vi x1)]) dX12_chains_16 rfl (Nat.le_of_ble_eq_true rfl) rfl ?_
    refine x_iconst dX12_chains_17 ?_
    refine w_istore_n (lv' := [(3, vi 0), (2, vi 0), (0, .ref 80), (1, vi x1)]) dX12_chains_18 rfl (Nat.le_of_ble_eq_true rfl) rfl ?_
    refine w_lv (lv' := [(0, .ref 80), (1, vi x1), (2, vi 0), (3, vi 0)]) [2, 3, 1, 0] rfl ?_
    exact q_Mo_chains_l19 hnx x1 0 0 s4 hs
  · refine x_iconst dX12_chains_8 ?_
    cases hs
    exact x_ireturn dX12_chains_9 rfl rfl (Nat.le_of_ble_eq_true rfl) (Nat.le_of_ble_eq_true rfl) ⟨rfl, rfl⟩
set_option maxRecDepth 100000 in
theorem q_Mo_isSafe_b56 {C : Cx} {nx : Nat} (hnx : 100 ≤ nx) {Qr : Option Value → Hp → Prop} {Qx : String → Hp → Prop}  (x1 : Int) (x2 : Int) (s : Sg) {o : ((Int) ⊕ ((Unit) ⊕ (Unit)))} (hs : Mo_isSafe_b56 x1 x2 s = some o) (hb : ∀ σ : Int, o = .inl σ → ww C M_X12_isSafe 6 0 0 nx (Qr) (Qx) nx 0 0 17 [(0, .ref 80), (1, vi x1), (2, vi σ)] [] (hp nx s)) (he0 : ∀ ρ : Unit, o = .inr (.inl ρ) → ww C M_X12_isSafe 6 0 0 nx (Qr) (Qx) nx 0 0 54 [] [] (hp nx s)) (he1 : ∀ ρ : Unit, o = .inr (.inr ρ) → ww C M_X12_isSafe 6 0 0 nx (Qr) (Qx) nx 0 0 62 [] [] (hp nx s)) : ww C M_X12_isSafe 6 0 0 nx (Qr) (Qx) nx 0 0 56 [(0, .ref 80), (1, vi x1), (2, vi x2)] [] (hp nx s) := by
  unfold Mo_isSafe_b56 at hs
  refine x_iinc (lv' := [(2, vi (x2 + 1)), (0, .ref 80), (1, vi x1)]) 2 dX12_isSafe_56 rfl (Nat.le_of_ble_eq_true rfl) rfl ?_
  refine w_goto dX12_isSafe_59 rfl ?_
  refine w_lv (lv' := [(0, .ref 80), (1, vi x1), (2, vi (x2 + 1))]) [1, 2, 0] rfl ?_
  cases hs
  exact hb _ rfl
set_option maxRecDepth 100000 in
theorem q_Mo_isSafe_t17 {C : Cx} {nx : Nat} (hnx : 100 ≤ nx) {Qr : Option Value → Hp → Prop} {Qx : String → Hp → Prop}  (x1 : Int) (x2 : Int) (s : Sg) {o : ((Int) ⊕ ((Unit) ⊕ (Unit)))} (hs : Mo_isSafe_t17 x1 x2 s = some o) (hb : ∀ σ : Int, o = .inl σ → ww C M_X12_isSafe 6 0 0 nx (Qr) (Qx) nx 0 0 17 [(0, .ref 80), (1, vi x1), (2, vi σ)] [] (hp nx s)) (he0 : ∀ ρ : Unit, o = .inr (.inl ρ) → ww C M_X12_isSafe 6 0 0 nx (Qr) (Qx) nx 0 0 54 [] [] (hp nx s)) (he1 : ∀ ρ : Unit, o = .inr (.inr ρ) → ww C M_X12_isSafe 6 0 0 nx (Qr) (Qx) nx 0 0 62 [] [] (hp nx s)) : ww C M_X12_isSafe 6 0 0 nx (Qr) (Qx) nx 0 0 17 [(0, .ref 80), (1, vi x1), (2, vi x2)] [] (hp nx s) := by
  unfold Mo_isSafe_t17 at hs
  refine w_iload_n 2 dX12_isSafe_17 rfl rfl ?_
  refine w_aload_n 0 dX12_isSafe_18 rfl rfl ?_
  refine x_V_I M_X12_cells [] [vi x2] hs rfl dX12_isSafe_19 (lkX12_212 _ rfl) (lt_of hnx (Nat.le_of_ble_eq_true rfl)) rfl rfl (Nat.le_of_ble_eq_true rfl) (Nat.le_of_ble_eq_true rfl) (Nat.le_of_ble_eq_true rfl) (Nat.le_of_ble_eq_true rfl) (c_Mo_cells hnx s) (fun y5 hy5 hs => ?_)
  refine x_icmpge hs dX12_isSafe_22 rfl (fun hs => ?_) (fun hs => ?_)
  · refine w_lv (lv' := []) [] rfl ?_
    cases hs
    exact he1 _ rfl
  · refine w_aload_n 0 dX12_isSafe_25 rfl rfl ?_
    refine w_iload_n 2 dX12_isSafe_26 rfl rfl ?_
    refine x_V_I M_X12_stone [vi x2] [] hs rfl dX12_isSafe_27 (lkX12_215 _ rfl) (lt_of hnx (Nat.le_of_ble_eq_true rfl)) rfl rfl (Nat.le_of_ble_eq_true rfl) (Nat.le_of_ble_eq_true rfl) (Nat.le_of_ble_eq_true rfl) (Nat.le_of_ble_eq_true rfl) (c_Mo_stone hnx x2 s) (fun y6 hy6 hs => ?_)
    refine w_iload_n 1 dX12_isSafe_30 rfl rfl ?_
    refine x_icmpne hs dX12_isSafe_31 rfl (fun hs => ?_) (fun hs => ?_)
    · exact q_Mo_isSafe_b56 hnx x1 x2 s hs hb he0 he1
    · refine w_aload_n 0 dX12_isSafe_34 rfl rfl ?_
      refine x_getR 12 28 (b := 94) dX12_isSafe_35 (fxX12_55 rfl) rfl rfl (lt_of hnx (Nat.le_of_ble_eq_true rfl)) rfl ?_
      refine w_iload_n 2 dX12_isSafe_38 rfl rfl ?_
      refine grd_e hs (fun hg7 hs => ?_)
      refine x_iald hg7 (Nat.le_of_ble_eq_true rfl) dX12_isSafe_39 (Or.inl ⟨rfl, (lt_of hnx (Nat.le_of_ble_eq_true rfl))⟩) ?_
      refine w_iload_n 2 dX12_isSafe_40 rfl rfl ?_
      refine x_icmpne hs dX12_isSafe_41 rfl (fun hs => ?_) (fun hs => ?_)
      · exact q_Mo_isSafe_b56 hnx x1 x2 s hs hb he0 he1
      · refine w_aload_n 0 dX12_isSafe_44 rfl rfl ?_
        refine w_iload_n 1 dX12_isSafe_45 rfl rfl ?_
        refine w_iload_n 2 dX12_isSafe_46 rfl rfl ?_
        refine x_V_I M_X12_chainEdges [vi x1, vi x2] [] hs rfl dX12_isSafe_47 (lkX12_337 _ rfl) (lt_of hnx (Nat.le_of_ble_eq_true rfl)) rfl rfl (Nat.le_of_ble_eq_true rfl) (Nat.le_of_ble_eq_true rfl) (Nat.le_of_ble_eq_true rfl) (Nat.le_of_ble_eq_true rfl) (c_Mo_chainEdges hnx x1 x2 s) (fun y8 hy8 hs => ?_)
        refine x_iconst dX12_isSafe_50 ?_
        refine x_icmpne hs dX12_isSafe_51 rfl (fun hs => ?_) (fun hs => ?_)
        · exact q_Mo_isSafe_b56 hnx x1 x2 s hs hb he0 he1
        · refine w_lv (lv' := []) [] rfl ?_
          cases hs
          exact he0 _ rfl
set_option maxRecDepth 100000 in
theorem q_Mo_isSafe_l17 {C : Cx} {nx : Nat} (hnx : 100 ≤ nx) (x1 : Int) (x2 : Int) (s : Sg) {o : Int × Sg} (hs : Mo_isSafe_l17 x1 x2 s = some o) : ww C M_X12_isSafe 6 0 0 nx (QI nx o.2 o.1) (XF) nx 0 0 17 [(0, .ref 80), (1, vi x1), (2, vi x2)] [] (hp nx s) := by
  unfold Mo_isSafe_l17 at hs
  refine bnd_e hs (fun ρ hw hs => ?_)
  rcases ρ with ⟨⟩ | ⟨⟩
  · have hE : ww C M_X12_isSafe 6 0 0 nx (QI nx o.2 o.1) (XF) nx 0 0 54 [] [] (hp nx s) := by
      refine x_iconst dX12_isSafe_54 ?_
      cases hs
      exact x_zreturn (Or.inr rfl) dX12_isSafe_55 rfl rfl (Nat.le_of_ble_eq_true rfl) (Nat.le_of_ble_eq_true rfl) ⟨rfl, rfl⟩
    refine whl_w (P := fun σ => ww C M_X12_isSafe 6 0 0 nx (QI nx o.2 o.1) (XF) nx 0 0 17 [(0, .ref 80), (1, vi x1), (2, vi σ)] [] (hp nx s)) (E := fun ρ => ρ = (.inl ())) hw rfl ?_
    intro σ o' hs' hb' he'
    exact q_Mo_isSafe_t17 hnx x1 σ s hs' hb' (fun ρ e => by cases he' _ e; exact hE) (fun ρ e => by cases he' _ e)
  · have hE : ww C M_X12_isSafe 6 0 0 nx (QI nx o.2 o.1) (XF) nx 0 0 62 [] [] (hp nx s) := by
      refine x_iconst dX12_isSafe_62 ?_
      cases hs
      exact x_zreturn (Or.inl rfl) dX12_isSafe_63 rfl rfl (Nat.le_of_ble_eq_true rfl) (Nat.le_of_ble_eq_true rfl) ⟨rfl, rfl⟩
    refine whl_w (P := fun σ => ww C M_X12_isSafe 6 0 0 nx (QI nx o.2 o.1) (XF) nx 0 0 17 [(0, .ref 80), (1, vi x1), (2, vi σ)] [] (hp nx s)) (E := fun ρ => ρ = (.inr ())) hw rfl ?_
    intro σ o' hs' hb' he'
    exact q_Mo_isSafe_t17 hnx x1 σ s hs' hb' (fun ρ e => by cases he' _ e) (fun ρ e => by cases he' _ e; exact hE)
set_option maxRecDepth 100000 in
theorem c_Mo_isSafe {C : Cx} {nx : Nat} (hnx : 100 ≤ nx) (x1 : Int) (s : Sg) : ∀ o, Mo_isSafe x1 s = some o → mm C M_X12_isSafe 6 0 0 nx nx [.ref 80, vi x1] (hp nx s) (QI nx o.2 o.1) (XF) := by
  intro o hs
  unfold Mo_isSafe at hs
  refine mm_of rfl rfl (Nat.le_of_ble_eq_true rfl) ?_
  show ww C M_X12_isSafe 6 0 0 nx (QI nx o.2 o.1) (XF) nx 0 0 0 [(0, .ref 80), (1, vi x1)] [] (hp nx s)
  refine w_aload_n 0 dX12_isSafe_0 rfl rfl ?_
  refine w_iload_n 1 dX12_isSafe_1 rfl rfl ?_
  refine x_V_B M_X12_noSide [vi x1] [] hs rfl dX12_isSafe_2 (lkX12_323 _ rfl) (lt_of hnx (Nat.le_of_ble_eq_true rfl)) rfl rfl (Nat.le_of_ble_eq_true rfl) (Nat.le_of_ble_eq_true rfl) (Nat.le_of_ble_eq_true rfl) (Nat.le_of_ble_eq_true rfl) (c_Mo_noSide hnx x1 s) (fun y1 s2 hy1 hs => ?_)
  refine x_ifeq hs dX12_isSafe_5 rfl (fun hs => ?_) (fun hs => ?_)
  · refine w_aload_n 0 dX12_isSafe_10 rfl rfl ?_
    refine w_iload_n 1 dX12_isSafe_11 rfl rfl ?_
    refine x_V_V M_X12_laysChains [vi x1] [] hs rfl dX12_isSafe_12 (lkX12_328 _ rfl) (lt_of hnx (Nat.le_of_ble_eq_true rfl)) rfl rfl (Nat.le_of_ble_eq_true rfl) (Nat.le_of_ble_eq_true rfl) (Nat.le_of_ble_eq_true rfl) (Nat.le_of_ble_eq_true rfl) (c_Mo_laysChains hnx x1 s2) (fun s4 hs4 hs => ?_)
    refine x_iconst dX12_isSafe_15 ?_
    refine w_istore_n (lv' := [(2, vi 0), (0, .ref 80), (1, vi x1)]) dX12_isSafe_16 rfl (Nat.le_of_ble_eq_true rfl) rfl ?_
    refine w_lv (lv' := [(0, .ref 80), (1, vi x1), (2, vi 0)]) [1, 2, 0] rfl ?_
    exact q_Mo_isSafe_l17 hnx x1 0 s4 hs
  · refine x_iconst dX12_isSafe_8 ?_
    cases hs
    exact x_zreturn (Or.inl rfl) dX12_isSafe_9 rfl rfl (Nat.le_of_ble_eq_true rfl) (Nat.le_of_ble_eq_true rfl) ⟨rfl, rfl⟩
set_option maxRecDepth 100000 in
theorem q_Mo_answerBy_b61 {C : Cx} {nx : Nat} (hnx : 100 ≤ nx) {Qr : Option Value → Hp → Prop} {Qx : String → Hp → Prop}  (x2 : Int) (x3 : Int) (s : Sg) {o : ((Int) ⊕ ((Int) ⊕ ((Int) ⊕ (Unit))))} (hs : Mo_answerBy_b61 x2 x3 s = some o) (hb : ∀ σ : Int, o = .inl σ → ww C M_X12_answerBy 5 0 0 nx (Qr) (Qx) nx 0 0 7 [(0, .ref 80), (2, vi x2), (3, vi σ)] [] (hp nx s)) (he0 : ∀ ρ : Int, o = .inr (.inl ρ) → ww C M_X12_answerBy 5 0 0 nx (Qr) (Qx) nx 0 0 37 [(0, .ref 80), (3, vi ρ)] [] (hp nx s)) (he1 : ∀ ρ : Int, o = .inr (.inr (.inl ρ)) → ww C M_X12_answerBy 5 0 0 nx (Qr) (Qx) nx 0 0 54 [(0, .ref 80), (3, vi ρ)] [] (hp nx s)) (he2 : ∀ ρ : Unit, o = .inr (.inr (.inr ρ)) → ww C M_X12_answerBy 5 0 0 nx (Qr) (Qx) nx 0 0 67 [] [] (hp nx s)) : ww C M_X12_answerBy 5 0 0 nx (Qr) (Qx) nx 0 0 61 [(0, .ref 80), (2, vi x2), (3, vi x3)] [] (hp nx s) := by
  unfold Mo_answerBy_b61 at hs
  refine x_iinc (lv' := [(3, vi (x3 + 1)), (0, .ref 80), (2, vi x2)]) 2 dX12_answerBy_61 rfl (Nat.le_of_ble_eq_true rfl) rfl ?_
  refine w_goto dX12_answerBy_64 rfl ?_
  refine w_lv (lv' := [(0, .ref 80), (2, vi x2), (3, vi (x3 + 1))]) [1, 2, 0] rfl ?_
  cases hs
  exact hb _ rfl
set_option maxRecDepth 100000 in
theorem q_Mo_answerBy_t7 {C : Cx} {nx : Nat} (hnx : 100 ≤ nx) {Qr : Option Value → Hp → Prop} {Qx : String → Hp → Prop}  (x2 : Int) (x3 : Int) (s : Sg) {o : ((Int) ⊕ ((Int) ⊕ ((Int) ⊕ (Unit))))} (hs : Mo_answerBy_t7 x2 x3 s = some o) (hb : ∀ σ : Int, o = .inl σ → ww C M_X12_answerBy 5 0 0 nx (Qr) (Qx) nx 0 0 7 [(0, .ref 80), (2, vi x2), (3, vi σ)] [] (hp nx s)) (he0 : ∀ ρ : Int, o = .inr (.inl ρ) → ww C M_X12_answerBy 5 0 0 nx (Qr) (Qx) nx 0 0 37 [(0, .ref 80), (3, vi ρ)] [] (hp nx s)) (he1 : ∀ ρ : Int, o = .inr (.inr (.inl ρ)) → ww C M_X12_answerBy 5 0 0 nx (Qr) (Qx) nx 0 0 54 [(0, .ref 80), (3, vi ρ)] [] (hp nx s)) (he2 : ∀ ρ : Unit, o = .inr (.inr (.inr ρ)) → ww C M_X12_answerBy 5 0 0 nx (Qr) (Qx) nx 0 0 67 [] [] (hp nx s)) : ww C M_X12_answerBy 5 0 0 nx (Qr) (Qx) nx 0 0 7 [(0, .ref 80), (2, vi x2), (3, vi x3)] [] (hp nx s) := by
  unfold Mo_answerBy_t7 at hs
  refine w_iload_n 2 dX12_answerBy_7 rfl rfl ?_
  refine w_aload_n 0 dX12_answerBy_8 rfl rfl ?_
  refine x_getI 12 24 dX12_answerBy_9 (fxX12_272 rfl) rfl rfl (lt_of hnx (Nat.le_of_ble_eq_true rfl)) ?_
  refine x_icmpge hs dX12_answerBy_12 rfl (fun hs => ?_) (fun hs => ?_)
  · refine w_lv (lv' := []) [] rfl ?_
    cases hs
    exact he2 _ rfl
  · refine w_aload_n 0 dX12_answerBy_15 rfl rfl ?_
    refine x_getR 12 22 (b := 92) dX12_answerBy_16 (fxX12_49 rfl) rfl rfl (lt_of hnx (Nat.le_of_ble_eq_true rfl)) rfl ?_
    refine w_iload_n 2 dX12_answerBy_19 rfl rfl ?_
    refine grd_e hs (fun hg3 hs => ?_)
    refine x_zald hg3 (Nat.le_of_ble_eq_true rfl) dX12_answerBy_20 rfl (lt_of hnx (Nat.le_of_ble_eq_true rfl)) ?_
    refine x_ifne hs dX12_answerBy_21 rfl (fun hs => ?_) (fun hs => ?_)
    · refine w_aload_n 0 dX12_answerBy_27 rfl rfl ?_
      refine x_getR 12 20 (b := 90) dX12_answerBy_28 (fxX12_43 rfl) rfl rfl (lt_of hnx (Nat.le_of_ble_eq_true rfl)) rfl ?_
      refine w_iload_n 2 dX12_answerBy_31 rfl rfl ?_
      refine grd_e hs (fun hg4 hs => ?_)
      refine x_iald hg4 (Nat.le_of_ble_eq_true rfl) dX12_answerBy_32 (Or.inl ⟨rfl, (lt_of hnx (Nat.le_of_ble_eq_true rfl))⟩) ?_
      refine w_iload_n 1 dX12_answerBy_33 rfl rfl ?_
      refine x_icmpne hs dX12_answerBy_34 rfl (fun hs => ?_) (fun hs => ?_)
      · refine w_aload_n 0 dX12_answerBy_44 rfl rfl ?_
        refine x_getR 12 21 (b := 91) dX12_answerBy_45 (fxX12_46 rfl) rfl rfl (lt_of hnx (Nat.le_of_ble_eq_true rfl)) rfl ?_
        refine w_iload_n 2 dX12_answerBy_48 rfl rfl ?_
        refine grd_e hs (fun hg5 hs => ?_)
        refine x_iald hg5 (Nat.le_of_ble_eq_true rfl) dX12_answerBy_49 (Or.inl ⟨rfl, (lt_of hnx (Nat.le_of_ble_eq_true rfl))⟩) ?_
        refine w_iload_n 1 dX12_answerBy_50 rfl rfl ?_
        refine x_icmpne hs dX12_answerBy_51 rfl (fun hs => ?_) (fun hs => ?_)
        · exact q_Mo_answerBy_b61 hnx x2 x3 s hs hb he0 he1 he2
        · refine w_lv (lv' := [(0, .ref 80), (3, vi x3)]) [0, 2] rfl ?_
          cases hs
          exact he1 _ rfl
      · refine w_lv (lv' := [(0, .ref 80), (3, vi x3)]) [0, 2] rfl ?_
        cases hs
        exact he0 _ rfl
    · refine w_goto dX12_answerBy_24 rfl ?_
      exact q_Mo_answerBy_b61 hnx x2 x3 s hs hb he0 he1 he2
set_option maxRecDepth 100000 in
theorem q_Mo_answerBy_l7 {C : Cx} {nx : Nat} (hnx : 100 ≤ nx) (x2 : Int) (x3 : Int) (s : Sg) {o : Int × Sg} (hs : Mo_answerBy_l7 x2 x3 s = some o) : ww C M_X12_answerBy 5 0 0 nx (QI nx o.2 o.1) (XF) nx 0 0 7 [(0, .ref 80), (2, vi x2), (3, vi x3)] [] (hp nx s) := by
  unfold Mo_answerBy_l7 at hs
  refine bnd_e hs (fun ρ hw hs => ?_)
  rcases ρ with x3_6 | x3_8 | ⟨⟩
  · have hE : ww C M_X12_answerBy 5 0 0 nx (QI nx o.2 o.1) (XF) nx 0 0 37 [(0, .ref 80), (3, vi x3_6)] [] (hp nx s) := by
      refine w_aload_n 0 dX12_answerBy_37 rfl rfl ?_
      refine x_getR 12 21 (b := 91) dX12_answerBy_38 (fxX12_46 rfl) rfl rfl (lt_of hnx (Nat.le_of_ble_eq_true rfl)) rfl ?_
      refine w_iload_n 1 dX12_answerBy_41 rfl rfl ?_
      refine grd_e hs (fun hg7 hs => ?_)
      refine x_iald hg7 (Nat.le_of_ble_eq_true rfl) dX12_answerBy_42 (Or.inl ⟨rfl, (lt_of hnx (Nat.le_of_ble_eq_true rfl))⟩) ?_
      cases hs
      exact x_ireturn dX12_answerBy_43 rfl rfl (Nat.le_of_ble_eq_true rfl) (Nat.le_of_ble_eq_true rfl) ⟨rfl, rfl⟩
    refine whl_w (P := fun σ => ww C M_X12_answerBy 5 0 0 nx (QI nx o.2 o.1) (XF) nx 0 0 7 [(0, .ref 80), (2, vi x2), (3, vi σ)] [] (hp nx s)) (E := fun ρ => ρ = (.inl x3_6)) hw rfl ?_
    intro σ o' hs' hb' he'
    exact q_Mo_answerBy_t7 hnx x2 σ s hs' hb' (fun ρ e => by cases he' _ e; exact hE) (fun ρ e => by cases he' _ e) (fun ρ e => by cases he' _ e)
  · have hE : ww C M_X12_answerBy 5 0 0 nx (QI nx o.2 o.1) (XF) nx 0 0 54 [(0, .ref 80), (3, vi x3_8)] [] (hp nx s) := by
      refine w_aload_n 0 dX12_answerBy_54 rfl rfl ?_
      refine x_getR 12 20 (b := 90) dX12_answerBy_55 (fxX12_43 rfl) rfl rfl (lt_of hnx (Nat.le_of_ble_eq_true rfl)) rfl ?_
      refine w_iload_n 1 dX12_answerBy_58 rfl rfl ?_
      refine grd_e hs (fun hg9 hs => ?_)
      refine x_iald hg9 (Nat.le_of_ble_eq_true rfl) dX12_answerBy_59 (Or.inl ⟨rfl, (lt_of hnx (Nat.le_of_ble_eq_true rfl))⟩) ?_
      cases hs
      exact x_ireturn dX12_answerBy_60 rfl rfl (Nat.le_of_ble_eq_true rfl) (Nat.le_of_ble_eq_true rfl) ⟨rfl, rfl⟩
    refine whl_w (P := fun σ => ww C M_X12_answerBy 5 0 0 nx (QI nx o.2 o.1) (XF) nx 0 0 7 [(0, .ref 80), (2, vi x2), (3, vi σ)] [] (hp nx s)) (E := fun ρ => ρ = (.inr (.inl x3_8))) hw rfl ?_
    intro σ o' hs' hb' he'
    exact q_Mo_answerBy_t7 hnx x2 σ s hs' hb' (fun ρ e => by cases he' _ e) (fun ρ e => by cases he' _ e; exact hE) (fun ρ e => by cases he' _ e)
  · have hE : ww C M_X12_answerBy 5 0 0 nx (QI nx o.2 o.1) (XF) nx 0 0 67 [] [] (hp nx s) := by
      refine x_iconst dX12_answerBy_67 ?_
      cases hs
      exact x_ireturn dX12_answerBy_68 rfl rfl (Nat.le_of_ble_eq_true rfl) (Nat.le_of_ble_eq_true rfl) ⟨rfl, rfl⟩
    refine whl_w (P := fun σ => ww C M_X12_answerBy 5 0 0 nx (QI nx o.2 o.1) (XF) nx 0 0 7 [(0, .ref 80), (2, vi x2), (3, vi σ)] [] (hp nx s)) (E := fun ρ => ρ = (.inr (.inr ()))) hw rfl ?_
    intro σ o' hs' hb' he'
    exact q_Mo_answerBy_t7 hnx x2 σ s hs' hb' (fun ρ e => by cases he' _ e) (fun ρ e => by cases he' _ e) (fun ρ e => by cases he' _ e; exact hE)
set_option maxRecDepth 100000 in
theorem c_Mo_answerBy {C : Cx} {nx : Nat} (hnx : 100 ≤ nx) (x1 : Int) (x2 : Int) (s : Sg) : ∀ o, Mo_answerBy x1 x2 s = some o → mm C M_X12_answerBy 5 0 0 nx nx [.ref 80, vi x1, vi x2] (hp nx s) (QI nx o.2 o.1) (XF) := by
  intro o hs
  unfold Mo_answerBy at hs
  refine mm_of rfl rfl (Nat.le_of_ble_eq_true rfl) ?_
  show ww C M_X12_answerBy 5 0 0 nx (QI nx o.2 o.1) (XF) nx 0 0 0 [(0, .ref 80), (1, vi x1), (2, vi x2)] [] (hp nx s)
  refine w_aload_n 0 dX12_answerBy_0 rfl rfl ?_
  refine w_iload_n 1 dX12_answerBy_1 rfl rfl ?_
  refine x_V_V M_X12_laysBridges [vi x1] [] hs rfl dX12_answerBy_2 (lkX12_288 _ rfl) (lt_of hnx (Nat.le_of_ble_eq_true rfl)) rfl rfl (Nat.le_of_ble_eq_true rfl) (Nat.le_of_ble_eq_true rfl) (Nat.le_of_ble_eq_true rfl) (Nat.le_of_ble_eq_true rfl) (c_Mo_laysBridges hnx x1 s) (fun s2 hs2 hs => ?_)
  refine x_iconst dX12_answerBy_5 ?_
  refine w_istore_n (lv' := [(3, vi 0), (0, .ref 80), (1, vi x1), (2, vi x2)]) dX12_answerBy_6 rfl (Nat.le_of_ble_eq_true rfl) rfl ?_
  refine w_lv (lv' := [(0, .ref 80), (2, vi x2), (3, vi 0)]) [1, 3, 0] rfl ?_
  exact q_Mo_answerBy_l7 hnx x2 0 s2 hs
set_option maxRecDepth 100000 in
theorem c_Mo_answer {C : Cx} {nx : Nat} (hnx : 100 ≤ nx) (x1 : Int) (s : Sg) : ∀ o, Mo_answer x1 s = some o → mm C M_X12_answer 6 0 0 nx nx [.ref 80, vi x1] (hp nx s) (QI nx o.2 o.1) (XF) := by
  intro o hs
  unfold Mo_answer at hs
  refine mm_of rfl rfl (Nat.le_of_ble_eq_true rfl) ?_
  show ww C M_X12_answer 6 0 0 nx (QI nx o.2 o.1) (XF) nx 0 0 0 [(0, .ref 80), (1, vi x1)] [] (hp nx s)
  refine w_aload_n 0 dX12_answer_0 rfl rfl ?_
  refine w_iload_n 1 dX12_answer_1 rfl rfl ?_
  refine x_V_B M_X12_noCell [vi x1] [] hs rfl dX12_answer_2 (lkX12_308 _ rfl) (lt_of hnx (Nat.le_of_ble_eq_true rfl)) rfl rfl (Nat.le_of_ble_eq_true rfl) (Nat.le_of_ble_eq_true rfl) (Nat.le_of_ble_eq_true rfl) (Nat.le_of_ble_eq_true rfl) (c_Mo_noCell hnx x1 s) (fun y1 s2 hy1 hs => ?_)
  refine x_ifeq hs dX12_answer_5 rfl (fun hs => ?_) (fun hs => ?_)
  · refine w_aload_n 0 dX12_answer_10 rfl rfl ?_
    refine w_iload_n 1 dX12_answer_11 rfl rfl ?_
    refine x_V_I M_X12_stone [vi x1] [] hs rfl dX12_answer_12 (lkX12_215 _ rfl) (lt_of hnx (Nat.le_of_ble_eq_true rfl)) rfl rfl (Nat.le_of_ble_eq_true rfl) (Nat.le_of_ble_eq_true rfl) (Nat.le_of_ble_eq_true rfl) (Nat.le_of_ble_eq_true rfl) (c_Mo_stone hnx x1 s2) (fun y3 hy3 hs => ?_)
    refine x_iconst dX12_answer_15 ?_
    refine x_icmpne hs dX12_answer_16 rfl (fun hs => ?_) (fun hs => ?_)
    · refine x_iconst dX12_answer_35 ?_
      cases hs
      exact x_ireturn dX12_answer_36 rfl rfl (Nat.le_of_ble_eq_true rfl) (Nat.le_of_ble_eq_true rfl) ⟨rfl, rfl⟩
    · refine w_aload_n 0 dX12_answer_19 rfl rfl ?_
      refine x_iconst dX12_answer_20 ?_
      refine w_aload_n 0 dX12_answer_21 rfl rfl ?_
      refine x_getR 12 1 (b := 81) dX12_answer_22 (fxX12_9 rfl) rfl rfl (lt_of hnx (Nat.le_of_ble_eq_true rfl)) rfl ?_
      refine x_iconst dX12_answer_25 ?_
      refine grd_e hs (fun hg4 hs => ?_)
      refine x_iald ⟨by decide, by decide⟩ (Nat.le_of_ble_eq_true rfl) dX12_answer_26 (Or.inl ⟨rfl, (lt_of hnx (Nat.le_of_ble_eq_true rfl))⟩) ?_
      refine x_isub dX12_answer_27 ?_
      refine w_iload_n 1 dX12_answer_28 rfl rfl ?_
      refine x_V_B M_X12_answerBy [vi (1 - (gi s2 81 2)), vi x1] [] hs rfl dX12_answer_29 (lkX12_340 _ rfl) (lt_of hnx (Nat.le_of_ble_eq_true rfl)) rfl rfl (Nat.le_of_ble_eq_true rfl) (Nat.le_of_ble_eq_true rfl) (Nat.le_of_ble_eq_true rfl) (Nat.le_of_ble_eq_true rfl) (c_Mo_answerBy hnx (1 - (gi s2 81 2)) x1 s2) (fun y5 s6 hy5 hs => ?_)
      refine w_goto dX12_answer_32 rfl ?_
      cases hs
      exact x_ireturn dX12_answer_36 rfl rfl (Nat.le_of_ble_eq_true rfl) (Nat.le_of_ble_eq_true rfl) ⟨rfl, rfl⟩
  · refine x_iconst dX12_answer_8 ?_
    cases hs
    exact x_ireturn dX12_answer_9 rfl rfl (Nat.le_of_ble_eq_true rfl) (Nat.le_of_ble_eq_true rfl) ⟨rfl, rfl⟩
set_option maxRecDepth 100000 in
theorem c_Mo_isThreat {C : Cx} {nx : Nat} (hnx : 100 ≤ nx) (x1 : Int) (x2 : Int) (s : Sg) : ∀ o, Mo_isThreat x1 x2 s = some o → mm C M_X12_isThreat 5 0 0 nx nx [.ref 80, vi x1, vi x2] (hp nx s) (QI nx o.2 o.1) (XF) := by
  intro o hs
  unfold Mo_isThreat at hs
  refine mm_of rfl rfl (Nat.le_of_ble_eq_true rfl) ?_
  show ww C M_X12_isThreat 5 0 0 nx (QI nx o.2 o.1) (XF) nx 0 0 0 [(0, .ref 80), (1, vi x1), (2, vi x2)] [] (hp nx s)
  refine w_aload_n 0 dX12_isThreat_0 rfl rfl ?_
  refine w_iload_n 2 dX12_isThreat_1 rfl rfl ?_
  refine x_V_I M_X12_stone [vi x2] [] hs rfl dX12_isThreat_2 (lkX12_215 _ rfl) (lt_of hnx (Nat.le_of_ble_eq_true rfl)) rfl rfl (Nat.le_of_ble_eq_true rfl) (Nat.le_of_ble_eq_true rfl) (Nat.le_of_ble_eq_true rfl) (Nat.le_of_ble_eq_true rfl) (c_Mo_stone hnx x2 s) (fun y1 hy1 hs => ?_)
  refine x_iconst dX12_isThreat_5 ?_
  refine x_icmpeq hs dX12_isThreat_6 rfl (fun hs => ?_) (fun hs => ?_)
  · refine w_aload_n 0 dX12_isThreat_11 rfl rfl ?_
    refine x_getR 12 1 (b := 81) dX12_isThreat_12 (fxX12_9 rfl) rfl rfl (lt_of hnx (Nat.le_of_ble_eq_true rfl)) rfl ?_
    refine x_iconst dX12_isThreat_15 ?_
    refine w_iload_n 2 dX12_isThreat_16 rfl rfl ?_
    refine x_iadd dX12_isThreat_17 ?_
    refine w_iload_n 1 dX12_isThreat_18 rfl rfl ?_
    refine grd_e hs (fun hg2 hs => ?_)
    refine x_iast hg2 (Nat.le_of_ble_eq_true rfl) dX12_isThreat_19 rfl (lt_of hnx (Nat.le_of_ble_eq_true rfl)) ?_
    refine nam_s hs (fun s3 hs => ?_)
    refine w_aload_n 0 dX12_isThreat_20 rfl rfl ?_
    refine w_iload_n 1 dX12_isThreat_21 rfl rfl ?_
    refine x_V_B M_X12_hasJoined [vi x1] [] hs rfl dX12_isThreat_22 (lkX12_248 _ rfl) (lt_of hnx (Nat.le_of_ble_eq_true rfl)) rfl rfl (Nat.le_of_ble_eq_true rfl) (Nat.le_of_ble_eq_true rfl) (Nat.le_of_ble_eq_true rfl) (Nat.le_of_ble_eq_true rfl) (c_Mo_hasJoined hnx x1 s3) (fun y4 s5 hy4 hs => ?_)
    refine w_istore_n (lv' := [(3, vi y4), (0, .ref 80), (1, vi x1), (2, vi x2)]) dX12_isThreat_25 rfl (Nat.le_of_ble_eq_true rfl) rfl ?_
    refine w_aload_n 1 dX12_isThreat_26 rfl rfl ?_
    refine x_getR 12 1 (b := 81) dX12_isThreat_27 (fxX12_9 rfl) rfl rfl (lt_of hnx (Nat.le_of_ble_eq_true rfl)) rfl ?_
    refine x_iconst dX12_isThreat_30 ?_
    refine w_iload_n 3 dX12_isThreat_31 rfl rfl ?_
    refine x_iadd dX12_isThreat_32 ?_
    refine x_iconst dX12_isThreat_33 ?_
    refine grd_e hs (fun hg6 hs => ?_)
    refine x_iast hg6 (Nat.le_of_ble_eq_true rfl) dX12_isThreat_34 rfl (lt_of hnx (Nat.le_of_ble_eq_true rfl)) ?_
    refine nam_s hs (fun s7 hs => ?_)
    refine w_iload_n 0 dX12_isThreat_35 rfl rfl ?_
    refine grd_e hs (fun hg8 hs => ?_)
    cases hs
    exact x_zreturn hg8 dX12_isThreat_36 rfl rfl (Nat.le_of_ble_eq_true rfl) (Nat.le_of_ble_eq_true rfl) ⟨rfl, rfl⟩
  · refine x_iconst dX12_isThreat_9 ?_
    cases hs
    exact x_zreturn (Or.inl rfl) dX12_isThreat_10 rfl rfl (Nat.le_of_ble_eq_true rfl) (Nat.le_of_ble_eq_true rfl) ⟨rfl, rfl⟩
set_option maxRecDepth 100000 in
theorem q_Mo_threatOf_b47 {C : Cx} {nx : Nat} (hnx : 100 ≤ nx) {Qr : Option Value → Hp → Prop} {Qx : String → Hp → Prop}  (x1 : Int) (x3 : Int) (x4 : Int) (s : Sg) {o : ((Int × Int × Sg) ⊕ ((Int × Sg) ⊕ (Sg)))} (hs : Mo_threatOf_b47 x1 x3 x4 s = some o) (hb : ∀ σ : Int × Int × Sg, o = .inl σ → ww C M_X12_threatOf 6 0 0 nx (Qr) (Qx) nx 0 0 15 [(0, .ref 80), (1, vi x1), (3, vi σ.1), (4, vi σ.2.1)] [] (hp nx σ.2.2)) (he0 : ∀ ρ : Int × Sg, o = .inr (.inl ρ) → ww C M_X12_threatOf 6 0 0 nx (Qr) (Qx) nx 0 0 41 [(4, vi ρ.1)] [] (hp nx ρ.2)) (he1 : ∀ ρ : Sg, o = .inr (.inr ρ) → ww C M_X12_threatOf 6 0 0 nx (Qr) (Qx) nx 0 0 53 [] [] (hp nx ρ)) : ww C M_X12_threatOf 6 0 0 nx (Qr) (Qx) nx 0 0 47 [(0, .ref 80), (1, vi x1), (3, vi x3), (4, vi x4)] [] (hp nx s) := by
  unfold Mo_threatOf_b47 at hs
  refine x_iinc (lv' := [(4, vi (x4 + 1)), (0, .ref 80), (1, vi x1), (3, vi x3)]) 3 dX12_threatOf_47 rfl (Nat.le_of_ble_eq_true rfl) rfl ?_
  refine w_goto dX12_threatOf_50 rfl ?_
  refine w_lv (lv' := [(0, .ref 80), (1, vi x1), (3, vi x3), (4, vi (x4 + 1))]) [1, 2, 3, 0] rfl ?_
  cases hs
  exact hb _ rfl
set_option maxRecDepth 100000 in
theorem q_Mo_threatOf_t15 {C : Cx} {nx : Nat} (hnx : 100 ≤ nx) {Qr : Option Value → Hp → Prop} {Qx : String → Hp → Prop}  (x1 : Int) (x3 : Int) (x4 : Int) (s : Sg) {o : ((Int × Int × Sg) ⊕ ((Int × Sg) ⊕ (Sg)))} (hs : Mo_threatOf_t15 x1 x3 x4 s = some o) (hb : ∀ σ : Int × Int × Sg, o = .inl σ → ww C M_X12_threatOf 6 0 0 nx (Qr) (Qx) nx 0 0 15 [(0, .ref 80), (1, vi x1), (3, vi σ.1), (4, vi σ.2.1)] [] (hp nx σ.2.2)) (he0 : ∀ ρ : Int × Sg, o = .inr (.inl ρ) → ww C M_X12_threatOf 6 0 0 nx (Qr) (Qx) nx 0 0 41 [(4, vi ρ.1)] [] (hp nx ρ.2)) (he1 : ∀ ρ : Sg, o = .inr (.inr ρ) → ww C M_X12_threatOf 6 0 0 nx (Qr) (Qx) nx 0 0 53 [] [] (hp nx ρ)) : ww C M_X12_threatOf 6 0 0 nx (Qr) (Qx) nx 0 0 15 [(0, .ref 80), (1, vi x1), (3, vi x3), (4, vi x4)] [] (hp nx s) := by
  unfold Mo_threatOf_t15 at hs
  refine w_iload 3 dX12_threatOf_15 rfl ?_
  refine w_aload_n 0 dX12_threatOf_17 rfl rfl ?_
  refine x_V_I M_X12_cells [] [vi x4] hs rfl dX12_threatOf_18 (lkX12_212 _ rfl) (lt_of hnx (Nat.le_of_ble_eq_true rfl)) rfl rfl (Nat.le_of_ble_eq_true rfl) (Nat.le_of_ble_eq_true rfl) (Nat.le_of_ble_eq_true rfl) (Nat.le_of_ble_eq_true rfl) (c_Mo_cells hnx s) (fun y3 hy3 hs => ?_)
  refine x_icmpge hs dX12_threatOf_21 rfl (fun hs => ?_) (fun hs => ?_)
  · refine w_lv (lv' := []) [] rfl ?_
    cases hs
    exact he1 _ rfl
  · refine w_aload_n 0 dX12_threatOf_24 rfl rfl ?_
    refine w_iload_n 1 dX12_threatOf_25 rfl rfl ?_
    refine w_iload 3 dX12_threatOf_26 rfl ?_
    refine x_V_B M_X12_isThreat [vi x1, vi x4] [] hs rfl dX12_threatOf_28 (lkX12_343 _ rfl) (lt_of hnx (Nat.le_of_ble_eq_true rfl)) rfl rfl (Nat.le_of_ble_eq_true rfl) (Nat.le_of_ble_eq_true rfl) (Nat.le_of_ble_eq_true rfl) (Nat.le_of_ble_eq_true rfl) (c_Mo_isThreat hnx x1 x4 s) (fun y4 s5 hy4 hs => ?_)
    refine x_ifne hs dX12_threatOf_31 rfl (fun hs => ?_) (fun hs => ?_)
    · refine w_iload_n 2 dX12_threatOf_37 rfl rfl ?_
      refine x_ifne hs dX12_threatOf_38 rfl (fun hs => ?_) (fun hs => ?_)
      · refine x_iinc (lv' := [(3, vi (x3 + (-1))), (0, .ref 80), (1, vi x1), (4, vi x4)]) 2 dX12_threatOf_44 rfl (Nat.le_of_ble_eq_true rfl) rfl ?_
        refine w_lv (lv' := [(0, .ref 80), (1, vi x1), (3, vi (x3 + (-1))), (4, vi x4)]) [1, 2, 0, 3] rfl ?_
        rw [← vi_dec x3]
        exact q_Mo_threatOf_b47 hnx x1 (dec32 x3) x4 s5 hs hb he0 he1
      · refine w_lv (lv' := [(4, vi x4)]) [3] rfl ?_
        cases hs
        exact he0 _ rfl
    · refine w_goto dX12_threatOf_34 rfl ?_
      exact q_Mo_threatOf_b47 hnx x1 x3 x4 s5 hs hb he0 he1
set_option maxRecDepth 100000 in
theorem q_Mo_threatOf_l15 {C : Cx} {nx : Nat} (hnx : 100 ≤ nx) (x1 : Int) (x3 : Int) (x4 : Int) (s : Sg) {o : Int × Sg} (hs : Mo_threatOf_l15 x1 x3 x4 s = some o) : ww C M_X12_threatOf 6 0 0 nx (QI nx o.2 o.1) (XF) nx 0 0 15 [(0, .ref 80), (1, vi x1), (3, vi x3), (4, vi x4)] [] (hp nx s) := by
  unfold Mo_threatOf_l15 at hs
  refine bnd_e hs (fun ρ hw hs => ?_)
  rcases ρ with ⟨x4_6, s_7⟩ | s_8
  · have hE : ww C M_X12_threatOf 6 0 0 nx (QI nx o.2 o.1) (XF) nx 0 0 41 [(4, vi x4_6)] [] (hp nx s_7) := by
      refine w_iload 0 dX12_threatOf_41 rfl ?_
      cases hs
      exact x_ireturn dX12_threatOf_43 rfl rfl (Nat.le_of_ble_eq_true rfl) (Nat.le_of_ble_eq_true rfl) ⟨rfl, rfl⟩
    refine whl_w (P := fun σ => ww C M_X12_threatOf 6 0 0 nx (QI nx o.2 o.1) (XF) nx 0 0 15 [(0, .ref 80), (1, vi x1), (3, vi σ.1), (4, vi σ.2.1)] [] (hp nx σ.2.2)) (E := fun ρ => ρ = (.inl (x4_6, s_7))) hw rfl ?_
    intro σ o' hs' hb' he'
    exact q_Mo_threatOf_t15 hnx x1 σ.1 σ.2.1 σ.2.2 hs' hb' (fun ρ e => by cases he' _ e; exact hE) (fun ρ e => by cases he' _ e)
  · have hE : ww C M_X12_threatOf 6 0 0 nx (QI nx o.2 o.1) (XF) nx 0 0 53 [] [] (hp nx s_8) := by
      refine x_iconst dX12_threatOf_53 ?_
      cases hs
      exact x_ireturn dX12_threatOf_54 rfl rfl (Nat.le_of_ble_eq_true rfl) (Nat.le_of_ble_eq_true rfl) ⟨rfl, rfl⟩
    refine whl_w (P := fun σ => ww C M_X12_threatOf 6 0 0 nx (QI nx o.2 o.1) (XF) nx 0 0 15 [(0, .ref 80), (1, vi x1), (3, vi σ.1), (4, vi σ.2.1)] [] (hp nx σ.2.2)) (E := fun ρ => ρ = (.inr s_8)) hw rfl ?_
    intro σ o' hs' hb' he'
    exact q_Mo_threatOf_t15 hnx x1 σ.1 σ.2.1 σ.2.2 hs' hb' (fun ρ e => by cases he' _ e) (fun ρ e => by cases he' _ e; exact hE)
set_option maxRecDepth 100000 in
theorem c_Mo_threatOf {C : Cx} {nx : Nat} (hnx : 100 ≤ nx) (x1 : Int) (x2 : Int) (s : Sg) : ∀ o, Mo_threatOf x1 x2 s = some o → mm C M_X12_threatOf 6 0 0 nx nx [.ref 80, vi x1, vi x2] (hp nx s) (QI nx o.2 o.1) (XF) := by
  intro o hs
  unfold Mo_threatOf at hs
  refine mm_of rfl rfl (Nat.le_of_ble_eq_true rfl) ?_
  show ww C M_X12_threatOf 6 0 0 nx (QI nx o.2 o.1) (XF) nx 0 0 0 [(0, .ref 80), (1, vi x1), (2, vi x2)] [] (hp nx s)
  refine w_aload_n 0 dX12_threatOf_0 rfl rfl ?_
  refine w_iload_n 1 dX12_threatOf_1 rfl rfl ?_
  refine x_V_B M_X12_hasJoined [vi x1] [] hs rfl dX12_threatOf_2 (lkX12_248 _ rfl) (lt_of hnx (Nat.le_of_ble_eq_true rfl)) rfl rfl (Nat.le_of_ble_eq_true rfl) (Nat.le_of_ble_eq_true rfl) (Nat.le_of_ble_eq_true rfl) (Nat.le_of_ble_eq_true rfl) (c_Mo_hasJoined hnx x1 s) (fun y1 s2 hy1 hs => ?_)
  refine x_ifeq hs dX12_threatOf_5 rfl (fun hs => ?_) (fun hs => ?_)
  · refine w_iload_n 2 dX12_threatOf_10 rfl rfl ?_
    refine w_istore_n (lv' := [(3, vi x2), (0, .ref 80), (1, vi x1), (2, vi x2)]) dX12_threatOf_11 rfl (Nat.le_of_ble_eq_true rfl) rfl ?_
    refine x_iconst dX12_threatOf_12 ?_
    refine w_istore (lv' := [(4, vi 0), (3, vi x2), (0, .ref 80), (1, vi x1), (2, vi x2)]) dX12_threatOf_13 (Nat.le_of_ble_eq_true rfl) rfl ?_
    refine w_lv (lv' := [(0, .ref 80), (1, vi x1), (3, vi x2), (4, vi 0)]) [2, 3, 1, 0] rfl ?_
    exact q_Mo_threatOf_l15 hnx x1 x2 0 s2 hs
  · refine x_iconst dX12_threatOf_8 ?_
    cases hs
    exact x_ireturn dX12_threatOf_9 rfl rfl (Nat.le_of_ble_eq_true rfl) (Nat.le_of_ble_eq_true rfl) ⟨rfl, rfl⟩
set_option maxRecDepth 100000 in
theorem q_Mo_threats_b45 {C : Cx} {nx : Nat} (hnx : 100 ≤ nx) {Qr : Option Value → Hp → Prop} {Qx : String → Hp → Prop}  (x1 : Int) (x3 : Int) (t0 : Int) (t1 : Int) (s : Sg) {o : ((Int × Int × Sg) ⊕ (Int × Sg))} (hs : Mo_threats_b45 x1 x3 t0 t1 s = some o) (hb : ∀ σ : Int × Int × Sg, o = .inl σ → ww C M_X12_threats 6 0 0 nx (Qr) (Qx) nx 0 0 22 [(0, .ref 80), (1, vi x1), (2, vi σ.1), (3, vi σ.2.1)] [] (hp nx σ.2.2)) (he0 : ∀ ρ : Int × Sg, o = .inr ρ → ww C M_X12_threats 6 0 0 nx (Qr) (Qx) nx 0 0 53 [(2, vi ρ.1)] [] (hp nx ρ.2)) : ww C M_X12_threats 6 0 0 nx (Qr) (Qx) nx 0 0 45 [(0, .ref 80), (1, vi x1), (3, vi x3)] [vi t1, vi t0] (hp nx s) := by
  unfold Mo_threats_b45 at hs
  refine x_iadd dX12_threats_45 ?_
  refine x_istore_n (fun x2_8 => [(2, vi x2_8), (0, .ref 80), (1, vi x1), (3, vi x3)]) hs dX12_threats_46 rfl (Nat.le_of_ble_eq_true rfl) (fun _ => rfl) (fun x2_8 hs => ?_)
  refine x_iinc (lv' := [(3, vi (x3 + 1)), (2, vi x2_8), (0, .ref 80), (1, vi x1)]) 3 dX12_threats_47 rfl (Nat.le_of_ble_eq_true rfl) rfl ?_
  refine w_goto dX12_threats_50 rfl ?_
  refine w_lv (lv' := [(0, .ref 80), (1, vi x1), (2, vi x2_8), (3, vi (x3 + 1))]) [2, 3, 1, 0] rfl ?_
  cases hs
  exact hb _ rfl
set_option maxRecDepth 100000 in
theorem q_Mo_threats_t22 {C : Cx} {nx : Nat} (hnx : 100 ≤ nx) {Qr : Option Value → Hp → Prop} {Qx : String → Hp → Prop}  (x1 : Int) (x2 : Int) (x3 : Int) (s : Sg) {o : ((Int × Int × Sg) ⊕ (Int × Sg))} (hs : Mo_threats_t22 x1 x2 x3 s = some o) (hb : ∀ σ : Int × Int × Sg, o = .inl σ → ww C M_X12_threats 6 0 0 nx (Qr) (Qx) nx 0 0 22 [(0, .ref 80), (1, vi x1), (2, vi σ.1), (3, vi σ.2.1)] [] (hp nx σ.2.2)) (he0 : ∀ ρ : Int × Sg, o = .inr ρ → ww C M_X12_threats 6 0 0 nx (Qr) (Qx) nx 0 0 53 [(2, vi ρ.1)] [] (hp nx ρ.2)) : ww C M_X12_threats 6 0 0 nx (Qr) (Qx) nx 0 0 22 [(0, .ref 80), (1, vi x1), (2, vi x2), (3, vi x3)] [] (hp nx s) := by
  unfold Mo_threats_t22 at hs
  refine w_iload_n 3 dX12_threats_22 rfl rfl ?_
  refine w_aload_n 0 dX12_threats_23 rfl rfl ?_
  refine x_V_I M_X12_cells [] [vi x3] hs rfl dX12_threats_24 (lkX12_212 _ rfl) (lt_of hnx (Nat.le_of_ble_eq_true rfl)) rfl rfl (Nat.le_of_ble_eq_true rfl) (Nat.le_of_ble_eq_true rfl) (Nat.le_of_ble_eq_true rfl) (Nat.le_of_ble_eq_true rfl) (c_Mo_cells hnx s) (fun y5 hy5 hs => ?_)
  refine x_icmpge hs dX12_threats_27 rfl (fun hs => ?_) (fun hs => ?_)
  · refine w_lv (lv' := [(2, vi x2)]) [2] rfl ?_
    cases hs
    exact he0 _ rfl
  · refine w_iload_n 2 dX12_threats_30 rfl rfl ?_
    refine w_aload_n 0 dX12_threats_31 rfl rfl ?_
    refine w_iload_n 1 dX12_threats_32 rfl rfl ?_
    refine w_iload_n 3 dX12_threats_33 rfl rfl ?_
    refine x_V_B M_X12_isThreat [vi x1, vi x3] [vi x2] hs rfl dX12_threats_34 (lkX12_343 _ rfl) (lt_of hnx (Nat.le_of_ble_eq_true rfl)) rfl rfl (Nat.le_of_ble_eq_true rfl) (Nat.le_of_ble_eq_true rfl) (Nat.le_of_ble_eq_true rfl) (Nat.le_of_ble_eq_true rfl) (c_Mo_isThreat hnx x1 x3 s) (fun y6 s7 hy6 hs => ?_)
    refine x_ifeq hs dX12_threats_37 rfl (fun hs => ?_) (fun hs => ?_)
    · refine x_iconst dX12_threats_44 ?_
      refine w_lv (lv' := [(0, .ref 80), (1, vi x1), (3, vi x3)]) [0, 1, 3] rfl ?_
      exact q_Mo_threats_b45 hnx x1 x3 x2 0 s7 hs hb he0
    · refine x_iconst dX12_threats_40 ?_
      refine w_goto dX12_threats_41 rfl ?_
      refine w_lv (lv' := [(0, .ref 80), (1, vi x1), (3, vi x3)]) [0, 1, 3] rfl ?_
      exact q_Mo_threats_b45 hnx x1 x3 x2 1 s7 hs hb he0
set_option maxRecDepth 100000 in
theorem q_Mo_threats_l22 {C : Cx} {nx : Nat} (hnx : 100 ≤ nx) (x1 : Int) (x2 : Int) (x3 : Int) (s : Sg) {o : Int × Sg} (hs : Mo_threats_l22 x1 x2 x3 s = some o) : ww C M_X12_threats 6 0 0 nx (QI nx o.2 o.1) (XF) nx 0 0 22 [(0, .ref 80), (1, vi x1), (2, vi x2), (3, vi x3)] [] (hp nx s) := by
  unfold Mo_threats_l22 at hs
  refine bnd_e hs (fun ρ hw hs => ?_)
  obtain ⟨x2_9, s_10⟩ := ρ
  have hE : ww C M_X12_threats 6 0 0 nx (QI nx o.2 o.1) (XF) nx 0 0 53 [(2, vi x2_9)] [] (hp nx s_10) := by
    refine w_iload_n 0 dX12_threats_53 rfl rfl ?_
    cases hs
    exact x_ireturn dX12_threats_54 rfl rfl (Nat.le_of_ble_eq_true rfl) (Nat.le_of_ble_eq_true rfl) ⟨rfl, rfl⟩
  refine whl_w (P := fun σ => ww C M_X12_threats 6 0 0 nx (QI nx o.2 o.1) (XF) nx 0 0 22 [(0, .ref 80), (1, vi x1), (2, vi σ.1), (3, vi σ.2.1)] [] (hp nx σ.2.2)) (E := fun ρ => ρ = (x2_9, s_10)) hw rfl ?_
  intro σ o' hs' hb' he'
  exact q_Mo_threats_t22 hnx x1 σ.1 σ.2.1 σ.2.2 hs' hb' (fun ρ e => by cases he' _ e; exact hE)
set_option maxRecDepth 100000 in
theorem c_Mo_threats {C : Cx} {nx : Nat} (hnx : 100 ≤ nx) (x1 : Int) (s : Sg) : ∀ o, Mo_threats x1 s = some o → mm C M_X12_threats 6 0 0 nx nx [.ref 80, vi x1] (hp nx s) (QI nx o.2 o.1) (XF) := by
  intro o hs
  unfold Mo_threats at hs
  refine mm_of rfl rfl (Nat.le_of_ble_eq_true rfl) ?_
  show ww C M_X12_threats 6 0 0 nx (QI nx o.2 o.1) (XF) nx 0 0 0 [(0, .ref 80), (1, vi x1)] [] (hp nx s)
  refine w_aload_n 0 dX12_threats_0 rfl rfl ?_
  refine w_iload_n 1 dX12_threats_1 rfl rfl ?_
  refine x_V_B M_X12_noSide [vi x1] [] hs rfl dX12_threats_2 (lkX12_323 _ rfl) (lt_of hnx (Nat.le_of_ble_eq_true rfl)) rfl rfl (Nat.le_of_ble_eq_true rfl) (Nat.le_of_ble_eq_true rfl) (Nat.le_of_ble_eq_true rfl) (Nat.le_of_ble_eq_true rfl) (c_Mo_noSide hnx x1 s) (fun y1 s2 hy1 hs => ?_)
  refine x_ifne hs dX12_threats_5 rfl (fun hs => ?_) (fun hs => ?_)
  · refine x_iconst dX12_threats_16 ?_
    cases hs
    exact x_ireturn dX12_threats_17 rfl rfl (Nat.le_of_ble_eq_true rfl) (Nat.le_of_ble_eq_true rfl) ⟨rfl, rfl⟩
  · refine w_aload_n 0 dX12_threats_8 rfl rfl ?_
    refine w_iload_n 1 dX12_threats_9 rfl rfl ?_
    refine x_V_B M_X12_hasJoined [vi x1] [] hs rfl dX12_threats_10 (lkX12_248 _ rfl) (lt_of hnx (Nat.le_of_ble_eq_true rfl)) rfl rfl (Nat.le_of_ble_eq_true rfl) (Nat.le_of_ble_eq_true rfl) (Nat.le_of_ble_eq_true rfl) (Nat.le_of_ble_eq_true rfl) (c_Mo_hasJoined hnx x1 s2) (fun y3 s4 hy3 hs => ?_)
    refine x_ifeq hs dX12_threats_13 rfl (fun hs => ?_) (fun hs => ?_)
    · refine x_iconst dX12_threats_18 ?_
      refine w_istore_n (lv' := [(2, vi 0), (0, .ref 80), (1, vi x1)]) dX12_threats_19 rfl (Nat.le_of_ble_eq_true rfl) rfl ?_
      refine x_iconst dX12_threats_20 ?_
      refine w_istore_n (lv' := [(3, vi 0), (2, vi 0), (0, .ref 80), (1, vi x1)]) dX12_threats_21 rfl (Nat.le_of_ble_eq_true rfl) rfl ?_
      refine w_lv (lv' := [(0, .ref 80), (1, vi x1), (2, vi 0), (3, vi 0)]) [2, 3, 1, 0] rfl ?_
      exact q_Mo_threats_l22 hnx x1 0 0 s4 hs
    · refine x_iconst dX12_threats_16 ?_
      cases hs
      exact x_ireturn dX12_threats_17 rfl rfl (Nat.le_of_ble_eq_true rfl) (Nat.le_of_ble_eq_true rfl) ⟨rfl, rfl⟩
set_option maxRecDepth 100000 in
theorem c_Mo_threat {C : Cx} {nx : Nat} (hnx : 100 ≤ nx) (x1 : Int) (x2 : Int) (s : Sg) : ∀ o, Mo_threat x1 x2 s = some o → mm C M_X12_threat 7 0 0 nx nx [.ref 80, vi x1, vi x2] (hp nx s) (QI nx o.2 o.1) (XF) := by
  intro o hs
  unfold Mo_threat at hs
  refine mm_of rfl rfl (Nat.le_of_ble_eq_true rfl) ?_
  show ww C M_X12_threat 7 0 0 nx (QI nx o.2 o.1) (XF) nx 0 0 0 [(0, .ref 80), (1, vi x1), (2, vi x2)] [] (hp nx s)
  refine w_aload_n 0 dX12_threat_0 rfl rfl ?_
  refine w_iload_n 1 dX12_threat_1 rfl rfl ?_
  refine x_V_B M_X12_noSide [vi x1] [] hs rfl dX12_threat_2 (lkX12_323 _ rfl) (lt_of hnx (Nat.le_of_ble_eq_true rfl)) rfl rfl (Nat.le_of_ble_eq_true rfl) (Nat.le_of_ble_eq_true rfl) (Nat.le_of_ble_eq_true rfl) (Nat.le_of_ble_eq_true rfl) (c_Mo_noSide hnx x1 s) (fun y1 s2 hy1 hs => ?_)
  refine x_ifeq hs dX12_threat_5 rfl (fun hs => ?_) (fun hs => ?_)
  · refine w_aload_n 0 dX12_threat_12 rfl rfl ?_
    refine w_iload_n 1 dX12_threat_13 rfl rfl ?_
    refine w_iload_n 2 dX12_threat_14 rfl rfl ?_
    refine x_V_B M_X12_threatOf [vi x1, vi x2] [] hs rfl dX12_threat_15 (lkX12_346 _ rfl) (lt_of hnx (Nat.le_of_ble_eq_true rfl)) rfl rfl (Nat.le_of_ble_eq_true rfl) (Nat.le_of_ble_eq_true rfl) (Nat.le_of_ble_eq_true rfl) (Nat.le_of_ble_eq_true rfl) (c_Mo_threatOf hnx x1 x2 s2) (fun y3 s4 hy3 hs => ?_)
    cases hs
    exact x_ireturn dX12_threat_18 rfl rfl (Nat.le_of_ble_eq_true rfl) (Nat.le_of_ble_eq_true rfl) ⟨rfl, rfl⟩
  · refine x_iconst dX12_threat_8 ?_
    refine w_goto dX12_threat_9 rfl ?_
    cases hs
    exact x_ireturn dX12_threat_18 rfl rfl (Nat.le_of_ble_eq_true rfl) (Nat.le_of_ble_eq_true rfl) ⟨rfl, rfl⟩
set_option maxRecDepth 100000 in
theorem c_Mo_answerToLatest {C : Cx} {nx : Nat} (hnx : 100 ≤ nx)  (s : Sg) : ∀ o, Mo_answerToLatest  s = some o → mm C M_X12_answerToLatest 6 0 0 nx nx [.ref 80] (hp nx s) (QI nx o.2 o.1) (XF) := by
  intro o hs
  unfold Mo_answerToLatest at hs
  refine mm_of rfl rfl (Nat.le_of_ble_eq_true rfl) ?_
  show ww C M_X12_answerToLatest 6 0 0 nx (QI nx o.2 o.1) (XF) nx 0 0 0 [(0, .ref 80)] [] (hp nx s)
  refine w_aload_n 0 dX12_answerToLatest_0 rfl rfl ?_
  refine x_getR 12 1 (b := 81) dX12_answerToLatest_1 (fxX12_9 rfl) rfl rfl (lt_of hnx (Nat.le_of_ble_eq_true rfl)) rfl ?_
  refine x_iconst dX12_answerToLatest_4 ?_
  refine grd_e hs (fun hg1 hs => ?_)
  refine x_iald ⟨by decide, by decide⟩ (Nat.le_of_ble_eq_true rfl) dX12_answerToLatest_5 (Or.inl ⟨rfl, (lt_of hnx (Nat.le_of_ble_eq_true rfl))⟩) ?_
  refine x_ifne hs dX12_answerToLatest_6 rfl (fun hs => ?_) (fun hs => ?_)
  · refine w_aload_n 0 dX12_answerToLatest_11 rfl rfl ?_
    refine x_getR 12 1 (b := 81) dX12_answerToLatest_12 (fxX12_9 rfl) rfl rfl (lt_of hnx (Nat.le_of_ble_eq_true rfl)) rfl ?_
    refine x_bipush dX12_answerToLatest_15 (by decide) ?_
    refine w_aload_n 0 dX12_answerToLatest_17 rfl rfl ?_
    refine x_getR 12 1 (b := 81) dX12_answerToLatest_18 (fxX12_9 rfl) rfl rfl (lt_of hnx (Nat.le_of_ble_eq_true rfl)) rfl ?_
    refine x_iconst dX12_answerToLatest_21 ?_
    refine grd_e hs (fun hg2 hs => ?_)
    refine x_iald ⟨by decide, by decide⟩ (Nat.le_of_ble_eq_true rfl) dX12_answerToLatest_22 (Or.inl ⟨rfl, (lt_of hnx (Nat.le_of_ble_eq_true rfl))⟩) ?_
    refine x_iadd dX12_answerToLatest_23 ?_
    refine x_iconst dX12_answerToLatest_24 ?_
    refine x_isub dX12_answerToLatest_25 ?_
    refine grd_e hs (fun hg3 hs => ?_)
    refine x_iald hg3 (Nat.le_of_ble_eq_true rfl) dX12_answerToLatest_26 (Or.inl ⟨rfl, (lt_of hnx (Nat.le_of_ble_eq_true rfl))⟩) ?_
    refine x_istore_n (fun x1_4 => [(1, vi x1_4), (0, .ref 80)]) hs dX12_answerToLatest_27 rfl (Nat.le_of_ble_eq_true rfl) (fun _ => rfl) (fun x1_4 hs => ?_)
    refine w_aload_n 1 dX12_answerToLatest_28 rfl rfl ?_
    refine w_iload_n 0 dX12_answerToLatest_29 rfl rfl ?_
    refine x_V_I M_X12_stone [vi x1_4] [] hs rfl dX12_answerToLatest_30 (lkX12_215 _ rfl) (lt_of hnx (Nat.le_of_ble_eq_true rfl)) rfl rfl (Nat.le_of_ble_eq_true rfl) (Nat.le_of_ble_eq_true rfl) (Nat.le_of_ble_eq_true rfl) (Nat.le_of_ble_eq_true rfl) (c_Mo_stone hnx x1_4 s) (fun y5 hy5 hs => ?_)
    refine x_iconst dX12_answerToLatest_33 ?_
    refine w_aload_n 1 dX12_answerToLatest_34 rfl rfl ?_
    refine x_getR 12 1 (b := 81) dX12_answerToLatest_35 (fxX12_9 rfl) rfl rfl (lt_of hnx (Nat.le_of_ble_eq_true rfl)) rfl ?_
    refine x_iconst dX12_answerToLatest_38 ?_
    refine grd_e hs (fun hg6 hs => ?_)
    refine x_iald ⟨by decide, by decide⟩ (Nat.le_of_ble_eq_true rfl) dX12_answerToLatest_39 (Or.inl ⟨rfl, (lt_of hnx (Nat.le_of_ble_eq_true rfl))⟩) ?_
    refine x_isub dX12_answerToLatest_40 ?_
    refine x_icmpeq hs dX12_answerToLatest_41 rfl (fun hs => ?_) (fun hs => ?_)
    · refine w_aload_n 1 dX12_answerToLatest_46 rfl rfl ?_
      refine x_getR 12 1 (b := 81) dX12_answerToLatest_47 (fxX12_9 rfl) rfl rfl (lt_of hnx (Nat.le_of_ble_eq_true rfl)) rfl ?_
      refine x_iconst dX12_answerToLatest_50 ?_
      refine w_iload_n 0 dX12_answerToLatest_51 rfl rfl ?_
      refine x_iadd dX12_answerToLatest_52 ?_
      refine x_iconst dX12_answerToLatest_53 ?_
      refine grd_e hs (fun hg7 hs => ?_)
      refine x_iast hg7 (Nat.le_of_ble_eq_true rfl) dX12_answerToLatest_54 rfl (lt_of hnx (Nat.le_of_ble_eq_true rfl)) ?_
      refine nam_s hs (fun s8 hs => ?_)
      refine w_aload_n 1 dX12_answerToLatest_55 rfl rfl ?_
      refine w_aload_n 1 dX12_answerToLatest_56 rfl rfl ?_
      refine x_getR 12 1 (b := 81) dX12_answerToLatest_57 (fxX12_9 rfl) rfl rfl (lt_of hnx (Nat.le_of_ble_eq_true rfl)) rfl ?_
      refine x_iconst dX12_answerToLatest_60 ?_
      refine grd_e hs (fun hg9 hs => ?_)
      refine x_iald ⟨by decide, by decide⟩ (Nat.le_of_ble_eq_true rfl) dX12_answerToLatest_61 (Or.inl ⟨rfl, (lt_of hnx (Nat.le_of_ble_eq_true rfl))⟩) ?_
      refine w_iload_n 0 dX12_answerToLatest_62 rfl rfl ?_
      refine x_V_B M_X12_answerBy [vi (gi s8 81 2), vi x1_4] [] hs rfl dX12_answerToLatest_63 (lkX12_340 _ rfl) (lt_of hnx (Nat.le_of_ble_eq_true rfl)) rfl rfl (Nat.le_of_ble_eq_true rfl) (Nat.le_of_ble_eq_true rfl) (Nat.le_of_ble_eq_true rfl) (Nat.le_of_ble_eq_true rfl) (c_Mo_answerBy hnx (gi s8 81 2) x1_4 s8) (fun y10 s11 hy10 hs => ?_)
      refine w_istore_n (lv' := [(2, vi y10), (1, vi x1_4), (0, .ref 80)]) dX12_answerToLatest_66 rfl (Nat.le_of_ble_eq_true rfl) rfl ?_
      refine w_aload_n 2 dX12_answerToLatest_67 rfl rfl ?_
      refine x_getR 12 1 (b := 81) dX12_answerToLatest_68 (fxX12_9 rfl) rfl rfl (lt_of hnx (Nat.le_of_ble_eq_true rfl)) rfl ?_
      refine x_iconst dX12_answerToLatest_71 ?_
      refine w_iload_n 1 dX12_answerToLatest_72 rfl rfl ?_
      refine x_iadd dX12_answerToLatest_73 ?_
      refine x_iconst dX12_answerToLatest_74 ?_
      refine w_aload_n 2 dX12_answerToLatest_75 rfl rfl ?_
      refine x_getR 12 1 (b := 81) dX12_answerToLatest_76 (fxX12_9 rfl) rfl rfl (lt_of hnx (Nat.le_of_ble_eq_true rfl)) rfl ?_
      refine x_iconst dX12_answerToLatest_79 ?_
      refine grd_e hs (fun hg12 hs => ?_)
      refine x_iald ⟨by decide, by decide⟩ (Nat.le_of_ble_eq_true rfl) dX12_answerToLatest_80 (Or.inl ⟨rfl, (lt_of hnx (Nat.le_of_ble_eq_true rfl))⟩) ?_
      refine x_isub dX12_answerToLatest_81 ?_
      refine grd_e hs (fun hg13 hs => ?_)
      refine x_iast hg13 (Nat.le_of_ble_eq_true rfl) dX12_answerToLatest_82 rfl (lt_of hnx (Nat.le_of_ble_eq_true rfl)) ?_
      refine nam_s hs (fun s14 hs => ?_)
      refine w_iload_n 0 dX12_answerToLatest_83 rfl rfl ?_
      cases hs
      exact x_ireturn dX12_answerToLatest_84 rfl rfl (Nat.le_of_ble_eq_true rfl) (Nat.le_of_ble_eq_true rfl) ⟨rfl, rfl⟩
    · refine x_iconst dX12_answerToLatest_44 ?_
      cases hs
      exact x_ireturn dX12_answerToLatest_45 rfl rfl (Nat.le_of_ble_eq_true rfl) (Nat.le_of_ble_eq_true rfl) ⟨rfl, rfl⟩
  · refine x_iconst dX12_answerToLatest_9 ?_
    cases hs
    exact x_ireturn dX12_answerToLatest_10 rfl rfl (Nat.le_of_ble_eq_true rfl) (Nat.le_of_ble_eq_true rfl) ⟨rfl, rfl⟩
set_option maxRecDepth 100000 in
theorem c_Mo_forcedNow {C : Cx} {nx : Nat} (hnx : 100 ≤ nx)  (s : Sg) : ∀ o, Mo_forcedNow  s = some o → mm C M_X12_forcedNow 7 0 0 nx nx [.ref 80] (hp nx s) (QI nx o.2 o.1) (XF) := by
  intro o hs
  unfold Mo_forcedNow at hs
  refine mm_of rfl rfl (Nat.le_of_ble_eq_true rfl) ?_
  show ww C M_X12_forcedNow 7 0 0 nx (QI nx o.2 o.1) (XF) nx 0 0 0 [(0, .ref 80)] [] (hp nx s)
  refine w_aload_n 0 dX12_forcedNow_0 rfl rfl ?_
  refine x_V_B M_X12_winner [] [] hs rfl dX12_forcedNow_1 (lkX12_155 _ rfl) (lt_of hnx (Nat.le_of_ble_eq_true rfl)) rfl rfl (Nat.le_of_ble_eq_true rfl) (Nat.le_of_ble_eq_true rfl) (Nat.le_of_ble_eq_true rfl) (Nat.le_of_ble_eq_true rfl) (c_Mo_winner hnx s) (fun y1 s2 hy1 hs => ?_)
  refine x_iconst dX12_forcedNow_4 ?_
  refine x_icmpeq hs dX12_forcedNow_5 rfl (fun hs => ?_) (fun hs => ?_)
  · refine w_aload_n 0 dX12_forcedNow_10 rfl rfl ?_
    refine w_aload_n 0 dX12_forcedNow_11 rfl rfl ?_
    refine x_getR 12 1 (b := 81) dX12_forcedNow_12 (fxX12_9 rfl) rfl rfl (lt_of hnx (Nat.le_of_ble_eq_true rfl)) rfl ?_
    refine x_iconst dX12_forcedNow_15 ?_
    refine grd_e hs (fun hg3 hs => ?_)
    refine x_iald ⟨by decide, by decide⟩ (Nat.le_of_ble_eq_true rfl) dX12_forcedNow_16 (Or.inl ⟨rfl, (lt_of hnx (Nat.le_of_ble_eq_true rfl))⟩) ?_
    refine x_iconst dX12_forcedNow_17 ?_
    refine x_V_B M_X12_threatOf [vi (gi s2 81 2), vi 0] [] hs rfl dX12_forcedNow_18 (lkX12_346 _ rfl) (lt_of hnx (Nat.le_of_ble_eq_true rfl)) rfl rfl (Nat.le_of_ble_eq_true rfl) (Nat.le_of_ble_eq_true rfl) (Nat.le_of_ble_eq_true rfl) (Nat.le_of_ble_eq_true rfl) (c_Mo_threatOf hnx (gi s2 81 2) 0 s2) (fun y4 s5 hy4 hs => ?_)
    refine w_istore_n (lv' := [(1, vi y4), (0, .ref 80)]) dX12_forcedNow_21 rfl (Nat.le_of_ble_eq_true rfl) rfl ?_
    refine w_iload_n 0 dX12_forcedNow_22 rfl rfl ?_
    refine x_iconst dX12_forcedNow_23 ?_
    refine x_icmpeq hs dX12_forcedNow_24 rfl (fun hs => ?_) (fun hs => ?_)
    · refine w_aload_n 1 dX12_forcedNow_29 rfl rfl ?_
      refine x_iconst dX12_forcedNow_30 ?_
      refine w_aload_n 1 dX12_forcedNow_31 rfl rfl ?_
      refine x_getR 12 1 (b := 81) dX12_forcedNow_32 (fxX12_9 rfl) rfl rfl (lt_of hnx (Nat.le_of_ble_eq_true rfl)) rfl ?_
      refine x_iconst dX12_forcedNow_35 ?_
      refine grd_e hs (fun hg6 hs => ?_)
      refine x_iald ⟨by decide, by decide⟩ (Nat.le_of_ble_eq_true rfl) dX12_forcedNow_36 (Or.inl ⟨rfl, (lt_of hnx (Nat.le_of_ble_eq_true rfl))⟩) ?_
      refine x_isub dX12_forcedNow_37 ?_
      refine x_iconst dX12_forcedNow_38 ?_
      refine x_V_B M_X12_threatOf [vi (1 - (gi s5 81 2)), vi 0] [] hs rfl dX12_forcedNow_39 (lkX12_346 _ rfl) (lt_of hnx (Nat.le_of_ble_eq_true rfl)) rfl rfl (Nat.le_of_ble_eq_true rfl) (Nat.le_of_ble_eq_true rfl) (Nat.le_of_ble_eq_true rfl) (Nat.le_of_ble_eq_true rfl) (c_Mo_threatOf hnx (1 - (gi s5 81 2)) 0 s5) (fun y7 s8 hy7 hs => ?_)
      refine w_istore_n (lv' := [(2, vi y7), (1, vi y4), (0, .ref 80)]) dX12_forcedNow_42 rfl (Nat.le_of_ble_eq_true rfl) rfl ?_
      refine w_iload_n 0 dX12_forcedNow_43 rfl rfl ?_
      refine x_iconst dX12_forcedNow_44 ?_
      refine x_icmpne hs dX12_forcedNow_45 rfl (fun hs => ?_) (fun hs => ?_)
      · refine w_aload_n 2 dX12_forcedNow_53 rfl rfl ?_
        refine x_iconst dX12_forcedNow_54 ?_
        refine w_aload_n 2 dX12_forcedNow_55 rfl rfl ?_
        refine x_getR 12 1 (b := 81) dX12_forcedNow_56 (fxX12_9 rfl) rfl rfl (lt_of hnx (Nat.le_of_ble_eq_true rfl)) rfl ?_
        refine x_iconst dX12_forcedNow_59 ?_
        refine grd_e hs (fun hg9 hs => ?_)
        refine x_iald ⟨by decide, by decide⟩ (Nat.le_of_ble_eq_true rfl) dX12_forcedNow_60 (Or.inl ⟨rfl, (lt_of hnx (Nat.le_of_ble_eq_true rfl))⟩) ?_
        refine x_isub dX12_forcedNow_61 ?_
        refine x_iconst dX12_forcedNow_62 ?_
        refine x_V_B M_X12_threatOf [vi (1 - (gi s8 81 2)), vi 1] [] hs rfl dX12_forcedNow_63 (lkX12_346 _ rfl) (lt_of hnx (Nat.le_of_ble_eq_true rfl)) rfl rfl (Nat.le_of_ble_eq_true rfl) (Nat.le_of_ble_eq_true rfl) (Nat.le_of_ble_eq_true rfl) (Nat.le_of_ble_eq_true rfl) (c_Mo_threatOf hnx (1 - (gi s8 81 2)) 1 s8) (fun y10 s11 hy10 hs => ?_)
        refine x_iconst dX12_forcedNow_66 ?_
        refine x_icmpne hs dX12_forcedNow_67 rfl (fun hs => ?_) (fun hs => ?_)
        · refine x_iconst dX12_forcedNow_74 ?_
          cases hs
          exact x_ireturn dX12_forcedNow_75 rfl rfl (Nat.le_of_ble_eq_true rfl) (Nat.le_of_ble_eq_true rfl) ⟨rfl, rfl⟩
        · refine w_iload_n 0 dX12_forcedNow_70 rfl rfl ?_
          refine w_goto dX12_forcedNow_71 rfl ?_
          cases hs
          exact x_ireturn dX12_forcedNow_75 rfl rfl (Nat.le_of_ble_eq_true rfl) (Nat.le_of_ble_eq_true rfl) ⟨rfl, rfl⟩
      · refine w_aload_n 2 dX12_forcedNow_48 rfl rfl ?_
        refine x_V_B M_X12_answerToLatest [] [] hs rfl dX12_forcedNow_49 (lkX12_349 _ rfl) (lt_of hnx (Nat.le_of_ble_eq_true rfl)) rfl rfl (Nat.le_of_ble_eq_true rfl) (Nat.le_of_ble_eq_true rfl) (Nat.le_of_ble_eq_true rfl) (Nat.le_of_ble_eq_true rfl) (c_Mo_answerToLatest hnx s8) (fun y12 s13 hy12 hs => ?_)
        cases hs
        exact x_ireturn dX12_forcedNow_52 rfl rfl (Nat.le_of_ble_eq_true rfl) (Nat.le_of_ble_eq_true rfl) ⟨rfl, rfl⟩
    · refine w_iload_n 0 dX12_forcedNow_27 rfl rfl ?_
      cases hs
      exact x_ireturn dX12_forcedNow_28 rfl rfl (Nat.le_of_ble_eq_true rfl) (Nat.le_of_ble_eq_true rfl) ⟨rfl, rfl⟩
  · refine x_iconst dX12_forcedNow_8 ?_
    cases hs
    exact x_ireturn dX12_forcedNow_9 rfl rfl (Nat.le_of_ble_eq_true rfl) (Nat.le_of_ble_eq_true rfl) ⟨rfl, rfl⟩
set_option maxRecDepth 100000 in
theorem c_Mo_forced {C : Cx} {nx : Nat} (hnx : 100 ≤ nx)  (s : Sg) : ∀ o, Mo_forced  s = some o → mm C M_X12_forced 8 0 0 nx nx [.ref 80] (hp nx s) (QI nx o.2 o.1) (XF) := by
  intro o hs
  unfold Mo_forced at hs
  refine mm_of rfl rfl (Nat.le_of_ble_eq_true rfl) ?_
  show ww C M_X12_forced 8 0 0 nx (QI nx o.2 o.1) (XF) nx 0 0 0 [(0, .ref 80)] [] (hp nx s)
  refine w_aload_n 0 dX12_forced_0 rfl rfl ?_
  refine x_iconst dX12_forced_1 ?_
  refine x_putI 12 0 dX12_forced_2 (poX12_77 rfl) rfl rfl (lt_of hnx (Nat.le_of_ble_eq_true rfl)) ?_
  refine nam_s hs (fun s1 hs => ?_)
  refine w_aload_n 0 dX12_forced_5 rfl rfl ?_
  refine x_V_B M_X12_forcedNow [] [] hs rfl dX12_forced_6 (lkX12_352 _ rfl) (lt_of hnx (Nat.le_of_ble_eq_true rfl)) rfl rfl (Nat.le_of_ble_eq_true rfl) (Nat.le_of_ble_eq_true rfl) (Nat.le_of_ble_eq_true rfl) (Nat.le_of_ble_eq_true rfl) (c_Mo_forcedNow hnx s1) (fun y2 s3 hy2 hs => ?_)
  cases hs
  exact x_ireturn dX12_forced_9 rfl rfl (Nat.le_of_ble_eq_true rfl) (Nat.le_of_ble_eq_true rfl) ⟨rfl, rfl⟩
set_option maxRecDepth 100000 in
theorem c_Mo_cost {C : Cx} {nx : Nat} (hnx : 100 ≤ nx) (x1 : Int) (x2 : Int) (s : Sg) : ∀ o, Mo_cost x1 x2 s = some o → mm C M_X12_cost 1 0 0 nx nx [.ref 80, vi x1, vi x2] (hp nx s) (QI nx s o) (XF) := by
  intro o hs
  unfold Mo_cost at hs
  refine mm_of rfl rfl (Nat.le_of_ble_eq_true rfl) ?_
  show ww C M_X12_cost 1 0 0 nx (QI nx s o) (XF) nx 0 0 0 [(0, .ref 80), (1, vi x1), (2, vi x2)] [] (hp nx s)
  refine w_aload_n 0 dX12_cost_0 rfl rfl ?_
  refine w_iload_n 2 dX12_cost_1 rfl rfl ?_
  refine x_V_I M_X12_stone [vi x2] [] hs rfl dX12_cost_2 (lkX12_215 _ rfl) (lt_of hnx (Nat.le_of_ble_eq_true rfl)) rfl rfl (Nat.le_of_ble_eq_true rfl) (Nat.le_of_ble_eq_true rfl) (Nat.le_of_ble_eq_true rfl) (Nat.le_of_ble_eq_true rfl) (c_Mo_stone hnx x2 s) (fun y1 hy1 hs => ?_)
  refine w_iload_n 1 dX12_cost_5 rfl rfl ?_
  refine x_icmpne hs dX12_cost_6 rfl (fun hs => ?_) (fun hs => ?_)
  · refine w_aload_n 0 dX12_cost_13 rfl rfl ?_
    refine w_iload_n 2 dX12_cost_14 rfl rfl ?_
    refine x_V_I M_X12_stone [vi x2] [] hs rfl dX12_cost_15 (lkX12_215 _ rfl) (lt_of hnx (Nat.le_of_ble_eq_true rfl)) rfl rfl (Nat.le_of_ble_eq_true rfl) (Nat.le_of_ble_eq_true rfl) (Nat.le_of_ble_eq_true rfl) (Nat.le_of_ble_eq_true rfl) (c_Mo_stone hnx x2 s) (fun y2 hy2 hs => ?_)
    refine x_iconst dX12_cost_18 ?_
    refine x_icmpne hs dX12_cost_19 rfl (fun hs => ?_) (fun hs => ?_)
    · refine x_sipush dX12_cost_26 (by decide) ?_
      cases hs
      exact x_ireturn dX12_cost_29 rfl rfl (Nat.le_of_ble_eq_true rfl) (Nat.le_of_ble_eq_true rfl) ⟨rfl, rfl⟩
    · refine x_iconst dX12_cost_22 ?_
      refine w_goto dX12_cost_23 rfl ?_
      cases hs
      exact x_ireturn dX12_cost_29 rfl rfl (Nat.le_of_ble_eq_true rfl) (Nat.le_of_ble_eq_true rfl) ⟨rfl, rfl⟩
  · refine x_iconst dX12_cost_9 ?_
    refine w_goto dX12_cost_10 rfl ?_
    cases hs
    exact x_ireturn dX12_cost_29 rfl rfl (Nat.le_of_ble_eq_true rfl) (Nat.le_of_ble_eq_true rfl) ⟨rfl, rfl⟩
set_option maxRecDepth 100000 in
theorem q_Mo_laysCosts_b43 {C : Cx} {nx : Nat} (hnx : 100 ≤ nx) {Qr : Option Value → Hp → Prop} {Qx : String → Hp → Prop}  (r1 : Nat) (h_r1 : isRowW nx r1) (x2 : Int) (x3 : Int) (x4 : Int) (t1 : Int) (t2 : Int) (s : Sg) {o : ((Int × Sg) ⊕ (Sg))} (hs : Mo_laysCosts_b43 r1 x2 x3 x4 t1 t2 s = some o) (hb : ∀ σ : Int × Sg, o = .inl σ → ww C M_X12_laysCosts 2 0 0 nx (Qr) (Qx) nx 0 0 3 [(0, .ref 80), (1, .ref r1), (2, vi x2), (3, vi x3), (4, vi σ.1)] [] (hp nx σ.2)) (he0 : ∀ ρ : Sg, o = .inr ρ → ww C M_X12_laysCosts 2 0 0 nx (Qr) (Qx) nx 0 0 50 [(0, .ref 80), (1, .ref r1), (2, vi x2)] [] (hp nx ρ)) : ww C M_X12_laysCosts 2 0 0 nx (Qr) (Qx) nx 0 0 43 [(0, .ref 80), (1, .ref r1), (2, vi x2), (3, vi x3), (4, vi x4)] [vi t2, vi t1, .ref r1] (hp nx s) := by
  unfold Mo_laysCosts_b43 at hs
  refine grd_e hs (fun hg3 hs => ?_)
  refine x_iast hg3 (alen_le _) dX12_laysCosts_43 h_r1.1 h_r1.2 ?_
  refine nam_s hs (fun s4 hs => ?_)
  refine x_iinc (lv' := [(4, vi (x4 + 1)), (0, .ref 80), (1, .ref r1), (2, vi x2), (3, vi x3)]) 4 dX12_laysCosts_44 rfl (Nat.le_of_ble_eq_true rfl) rfl ?_
  refine w_goto dX12_laysCosts_47 rfl ?_
  refine w_lv (lv' := [(0, .ref 80), (1, .ref r1), (2, vi x2), (3, vi x3), (4, vi (x4 + 1))]) [1, 2, 3, 4, 0] rfl ?_
  cases hs
  exact hb _ rfl
set_option maxRecDepth 100000 in
theorem q_Mo_laysCosts_t3 {C : Cx} {nx : Nat} (hnx : 100 ≤ nx) {Qr : Option Value → Hp → Prop} {Qx : String → Hp → Prop}  (r1 : Nat) (h_r1 : isRowW nx r1) (x2 : Int) (x3 : Int) (x4 : Int) (s : Sg) {o : ((Int × Sg) ⊕ (Sg))} (hs : Mo_laysCosts_t3 r1 x2 x3 x4 s = some o) (hb : ∀ σ : Int × Sg, o = .inl σ → ww C M_X12_laysCosts 2 0 0 nx (Qr) (Qx) nx 0 0 3 [(0, .ref 80), (1, .ref r1), (2, vi x2), (3, vi x3), (4, vi σ.1)] [] (hp nx σ.2)) (he0 : ∀ ρ : Sg, o = .inr ρ → ww C M_X12_laysCosts 2 0 0 nx (Qr) (Qx) nx 0 0 50 [(0, .ref 80), (1, .ref r1), (2, vi x2)] [] (hp nx ρ)) : ww C M_X12_laysCosts 2 0 0 nx (Qr) (Qx) nx 0 0 3 [(0, .ref 80), (1, .ref r1), (2, vi x2), (3, vi x3), (4, vi x4)] [] (hp nx s) := by
  unfold Mo_laysCosts_t3 at hs
  refine w_iload 4 dX12_laysCosts_3 rfl ?_
  refine w_aload_n 0 dX12_laysCosts_5 rfl rfl ?_
  refine x_V_I M_X12_cells [] [vi x4] hs rfl dX12_laysCosts_6 (lkX12_212 _ rfl) (lt_of hnx (Nat.le_of_ble_eq_true rfl)) rfl rfl (Nat.le_of_ble_eq_true rfl) (Nat.le_of_ble_eq_true rfl) (Nat.le_of_ble_eq_true rfl) (Nat.le_of_ble_eq_true rfl) (c_Mo_cells hnx s) (fun y1 hy1 hs => ?_)
  refine x_icmpge hs dX12_laysCosts_9 rfl (fun hs => ?_) (fun hs => ?_)
  · refine w_lv (lv' := [(0, .ref 80), (1, .ref r1), (2, vi x2)]) [0, 1, 2] rfl ?_
    cases hs
    exact he0 _ rfl
  · refine w_aload_n 1 dX12_laysCosts_12 rfl rfl ?_
    refine w_iload 4 dX12_laysCosts_13 rfl ?_
    refine w_aload_n 0 dX12_laysCosts_15 rfl rfl ?_
    refine w_iload_n 2 dX12_laysCosts_16 rfl rfl ?_
    refine w_iload 4 dX12_laysCosts_17 rfl ?_
    refine x_V_I M_X12_edges [vi x2, vi x4] [vi x4, .ref r1] hs rfl dX12_laysCosts_19 (lkX12_239 _ rfl) (lt_of hnx (Nat.le_of_ble_eq_true rfl)) rfl rfl (Nat.le_of_ble_eq_true rfl) (Nat.le_of_ble_eq_true rfl) (Nat.le_of_ble_eq_true rfl) (Nat.le_of_ble_eq_true rfl) (c_Mo_edges hnx x2 x4 s) (fun y2 hy2 hs => ?_)
    refine w_iload_n 3 dX12_laysCosts_22 rfl rfl ?_
    refine x_ishr dX12_laysCosts_23 ?_
    refine x_iconst dX12_laysCosts_24 ?_
    refine x_iand dX12_laysCosts_25 ?_
    refine x_iconst dX12_laysCosts_26 ?_
    refine x_icmpne hs dX12_laysCosts_27 rfl (fun hs => ?_) (fun hs => ?_)
    · refine x_sipush dX12_laysCosts_40 (by decide) ?_
      exact q_Mo_laysCosts_b43 hnx r1 h_r1 x2 x3 x4 x4 1000 s hs hb he0
    · refine w_aload_n 0 dX12_laysCosts_30 rfl rfl ?_
      refine w_iload_n 2 dX12_laysCosts_31 rfl rfl ?_
      refine w_iload 4 dX12_laysCosts_32 rfl ?_
      refine x_V_I M_X12_cost [vi x2, vi x4] [vi x4, .ref r1] hs rfl dX12_laysCosts_34 (lkX12_355 _ rfl) (lt_of hnx (Nat.le_of_ble_eq_true rfl)) rfl rfl (Nat.le_of_ble_eq_true rfl) (Nat.le_of_ble_eq_true rfl) (Nat.le_of_ble_eq_true rfl) (Nat.le_of_ble_eq_true rfl) (c_Mo_cost hnx x2 x4 s) (fun y5 hy5 hs => ?_)
      refine w_goto dX12_laysCosts_37 rfl ?_
      exact q_Mo_laysCosts_b43 hnx r1 h_r1 x2 x3 x4 x4 y5 s hs hb he0
set_option maxRecDepth 100000 in
theorem q_Mo_laysCosts_b140 {C : Cx} {nx : Nat} (hnx : 100 ≤ nx) {Qr : Option Value → Hp → Prop} {Qx : String → Hp → Prop}  (r1 : Nat) (h_r1 : isRowW nx r1) (x2 : Int) (x4 : Int) (x5 : Int) (x6 : Int) (s : Sg) {o : ((Int × Int × Sg) ⊕ (Int × Sg))} (hs : Mo_laysCosts_b140 r1 x2 x4 x5 x6 s = some o) (hb : ∀ σ : Int × Int × Sg, o = .inl σ → ww C M_X12_laysCosts 2 0 0 nx (Qr) (Qx) nx 0 0 76 [(0, .ref 80), (1, .ref r1), (2, vi x2), (4, vi σ.1), (5, vi x5), (6, vi σ.2.1)] [] (hp nx σ.2.2)) (he0 : ∀ ρ : Int × Sg, o = .inr ρ → ww C M_X12_laysCosts 2 0 0 nx (Qr) (Qx) nx 0 0 146 [(0, .ref 80), (1, .ref r1), (2, vi x2), (4, vi ρ.1), (5, vi x5)] [] (hp nx ρ.2)) : ww C M_X12_laysCosts 2 0 0 nx (Qr) (Qx) nx 0 0 140 [(0, .ref 80), (1, .ref r1), (2, vi x2), (4, vi x4), (5, vi x5), (6, vi x6)] [] (hp nx s) := by
  unfold Mo_laysCosts_b140 at hs
  refine x_iinc (lv' := [(6, vi (x6 + 1)), (0, .ref 80), (1, .ref r1), (2, vi x2), (4, vi x4), (5, vi x5)]) 5 dX12_laysCosts_140 rfl (Nat.le_of_ble_eq_true rfl) rfl ?_
  refine w_goto dX12_laysCosts_143 rfl ?_
  refine w_lv (lv' := [(0, .ref 80), (1, .ref r1), (2, vi x2), (4, vi x4), (5, vi x5), (6, vi (x6 + 1))]) [1, 2, 3, 4, 5, 0] rfl ?_
  cases hs
  exact hb _ rfl
set_option maxRecDepth 100000 in
theorem q_Mo_laysCosts_t76 {C : Cx} {nx : Nat} (hnx : 100 ≤ nx) {Qr : Option Value → Hp → Prop} {Qx : String → Hp → Prop}  (r1 : Nat) (h_r1 : isRowW nx r1) (x2 : Int) (x4 : Int) (x5 : Int) (x6 : Int) (s : Sg) {o : ((Int × Int × Sg) ⊕ (Int × Sg))} (hs : Mo_laysCosts_t76 r1 x2 x4 x5 x6 s = some o) (hb : ∀ σ : Int × Int × Sg, o = .inl σ → ww C M_X12_laysCosts 2 0 0 nx (Qr) (Qx) nx 0 0 76 [(0, .ref 80), (1, .ref r1), (2, vi x2), (4, vi σ.1), (5, vi x5), (6, vi σ.2.1)] [] (hp nx σ.2.2)) (he0 : ∀ ρ : Int × Sg, o = .inr ρ → ww C M_X12_laysCosts 2 0 0 nx (Qr) (Qx) nx 0 0 146 [(0, .ref 80), (1, .ref r1), (2, vi x2), (4, vi ρ.1), (5, vi x5)] [] (hp nx ρ.2)) : ww C M_X12_laysCosts 2 0 0 nx (Qr) (Qx) nx 0 0 76 [(0, .ref 80), (1, .ref r1), (2, vi x2), (4, vi x4), (5, vi x5), (6, vi x6)] [] (hp nx s) := by
  unfold Mo_laysCosts_t76 at hs
  refine w_iload 5 dX12_laysCosts_76 rfl ?_
  refine x_bipush dX12_laysCosts_78 (by decide) ?_
  refine x_icmpge hs dX12_laysCosts_80 rfl (fun hs => ?_) (fun hs => ?_)
  · refine w_lv (lv' := [(0, .ref 80), (1, .ref r1), (2, vi x2), (4, vi x4), (5, vi x5)]) [0, 1, 2, 3, 4] rfl ?_
    cases hs
    exact he0 _ rfl
  · refine w_aload_n 0 dX12_laysCosts_83 rfl rfl ?_
    refine w_iload 4 dX12_laysCosts_84 rfl ?_
    refine w_iload 5 dX12_laysCosts_86 rfl ?_
    refine x_V_I M_X12_round [vi x5, vi x6] [] hs rfl dX12_laysCosts_88 (lkX12_218 _ rfl) (lt_of hnx (Nat.le_of_ble_eq_true rfl)) rfl rfl (Nat.le_of_ble_eq_true rfl) (Nat.le_of_ble_eq_true rfl) (Nat.le_of_ble_eq_true rfl) (Nat.le_of_ble_eq_true rfl) (c_Mo_round hnx x5 x6 s) (fun y8 hy8 hs => ?_)
    refine w_istore (lv' := [(7, vi y8), (0, .ref 80), (1, .ref r1), (2, vi x2), (4, vi x4), (5, vi x5), (6, vi x6)]) dX12_laysCosts_91 (Nat.le_of_ble_eq_true rfl) rfl ?_
    refine w_iload 0 dX12_laysCosts_93 rfl ?_
    refine x_iconst dX12_laysCosts_95 ?_
    refine x_icmpeq hs dX12_laysCosts_96 rfl (fun hs => ?_) (fun hs => ?_)
    · refine w_lv (lv' := [(0, .ref 80), (1, .ref r1), (2, vi x2), (4, vi x4), (5, vi x5), (6, vi x6)]) [1, 2, 3, 4, 5, 6] rfl ?_
      exact q_Mo_laysCosts_b140 hnx r1 h_r1 x2 x4 x5 x6 s hs hb he0
    · refine w_aload_n 2 dX12_laysCosts_99 rfl rfl ?_
      refine w_iload 0 dX12_laysCosts_100 rfl ?_
      refine grd_e hs (fun hg9 hs => ?_)
      refine x_iald hg9 (alen_le _) dX12_laysCosts_102 (isRow_A (Or.inl h_r1)) ?_
      refine w_aload_n 1 dX12_laysCosts_103 rfl rfl ?_
      refine w_iload_n 3 dX12_laysCosts_104 rfl rfl ?_
      refine w_iload 5 dX12_laysCosts_105 rfl ?_
      refine x_V_I M_X12_cost [vi x2, vi x5] [vi (gi s r1 y8.toNat)] hs rfl dX12_laysCosts_107 (lkX12_355 _ rfl) (lt_of hnx (Nat.le_of_ble_eq_true rfl)) rfl rfl (Nat.le_of_ble_eq_true rfl) (Nat.le_of_ble_eq_true rfl) (Nat.le_of_ble_eq_true rfl) (Nat.le_of_ble_eq_true rfl) (c_Mo_cost hnx x2 x5 s) (fun y10 hy10 hs => ?_)
      refine x_iadd dX12_laysCosts_110 ?_
      refine w_aload_n 2 dX12_laysCosts_111 rfl rfl ?_
      refine w_iload 5 dX12_laysCosts_112 rfl ?_
      refine grd_e hs (fun hg11 hs => ?_)
      refine x_iald hg11 (alen_le _) dX12_laysCosts_114 (isRow_A (Or.inl h_r1)) ?_
      refine x_icmplt hs dX12_laysCosts_115 rfl (fun hs => ?_) (fun hs => ?_)
      · refine w_aload_n 2 dX12_laysCosts_121 rfl rfl ?_
        refine w_iload 5 dX12_laysCosts_122 rfl ?_
        refine w_aload_n 2 dX12_laysCosts_124 rfl rfl ?_
        refine w_iload 0 dX12_laysCosts_125 rfl ?_
        refine grd_e hs (fun hg12 hs => ?_)
        refine x_iald hg12 (alen_le _) dX12_laysCosts_127 (isRow_A (Or.inl h_r1)) ?_
        refine w_aload_n 1 dX12_laysCosts_128 rfl rfl ?_
        refine w_iload_n 3 dX12_laysCosts_129 rfl rfl ?_
        refine w_iload 5 dX12_laysCosts_130 rfl ?_
        refine x_V_I M_X12_cost [vi x2, vi x5] [vi (gi s r1 y8.toNat), vi x5, .ref r1] hs rfl dX12_laysCosts_132 (lkX12_355 _ rfl) (lt_of hnx (Nat.le_of_ble_eq_true rfl)) rfl rfl (Nat.le_of_ble_eq_true rfl) (Nat.le_of_ble_eq_true rfl) (Nat.le_of_ble_eq_true rfl) (Nat.le_of_ble_eq_true rfl) (c_Mo_cost hnx x2 x5 s) (fun y13 hy13 hs => ?_)
        refine x_iadd dX12_laysCosts_135 ?_
        refine grd_e hs (fun hg14 hs => ?_)
        refine x_iast hg14 (alen_le _) dX12_laysCosts_136 h_r1.1 h_r1.2 ?_
        refine nam_s hs (fun s15 hs => ?_)
        refine x_iconst dX12_laysCosts_137 ?_
        refine w_istore (lv' := [(4, vi 1), (7, vi y8), (0, .ref 80), (1, .ref r1), (2, vi x2), (5, vi x5), (6, vi x6)]) dX12_laysCosts_138 (Nat.le_of_ble_eq_true rfl) rfl ?_
        refine w_lv (lv' := [(0, .ref 80), (1, .ref r1), (2, vi x2), (4, vi 1), (5, vi x5), (6, vi x6)]) [2, 3, 4, 0, 5, 6] rfl ?_
        exact q_Mo_laysCosts_b140 hnx r1 h_r1 x2 1 x5 x6 s15 hs hb he0
      · refine w_goto dX12_laysCosts_118 rfl ?_
        refine w_lv (lv' := [(0, .ref 80), (1, .ref r1), (2, vi x2), (4, vi x4), (5, vi x5), (6, vi x6)]) [1, 2, 3, 4, 5, 6] rfl ?_
        exact q_Mo_laysCosts_b140 hnx r1 h_r1 x2 x4 x5 x6 s hs hb he0
set_option maxRecDepth 100000 in
theorem q_Mo_laysCosts_l76 {C : Cx} {nx : Nat} (hnx : 100 ≤ nx) {Qr : Option Value → Hp → Prop} {Qx : String → Hp → Prop}  (r1 : Nat) (h_r1 : isRowW nx r1) (x2 : Int) (x4 : Int) (x5 : Int) (x6 : Int) (s : Sg) {o : ((Int × Int × Sg) ⊕ (Int × Sg))} (hs : Mo_laysCosts_l76 r1 x2 x4 x5 x6 s = some o) (hb : ∀ σ : Int × Int × Sg, o = .inl σ → ww C M_X12_laysCosts 2 0 0 nx (Qr) (Qx) nx 0 0 64 [(0, .ref 80), (1, .ref r1), (2, vi x2), (4, vi σ.1), (5, vi σ.2.1)] [] (hp nx σ.2.2)) (he0 : ∀ ρ : Int × Sg, o = .inr ρ → ww C M_X12_laysCosts 2 0 0 nx (Qr) (Qx) nx 0 0 152 [(0, .ref 80), (1, .ref r1), (2, vi x2), (4, vi ρ.1)] [] (hp nx ρ.2)) : ww C M_X12_laysCosts 2 0 0 nx (Qr) (Qx) nx 0 0 76 [(0, .ref 80), (1, .ref r1), (2, vi x2), (4, vi x4), (5, vi x5), (6, vi x6)] [] (hp nx s) := by
  unfold Mo_laysCosts_l76 at hs
  refine bnd_e hs (fun ρ hw hs => ?_)
  obtain ⟨x4_16, s_17⟩ := ρ
  have hE : ww C M_X12_laysCosts 2 0 0 nx (Qr) (Qx) nx 0 0 146 [(0, .ref 80), (1, .ref r1), (2, vi x2), (4, vi x4_16), (5, vi x5)] [] (hp nx s_17) := by
    refine x_iinc (lv' := [(5, vi (x5 + 1)), (0, .ref 80), (1, .ref r1), (2, vi x2), (4, vi x4_16)]) 4 dX12_laysCosts_146 rfl (Nat.le_of_ble_eq_true rfl) rfl ?_
    refine w_goto dX12_laysCosts_149 rfl ?_
    refine w_lv (lv' := [(0, .ref 80), (1, .ref r1), (2, vi x2), (4, vi x4_16), (5, vi (x5 + 1))]) [1, 2, 3, 4, 0] rfl ?_
    cases hs
    exact hb _ rfl
  refine whl_w (P := fun σ => ww C M_X12_laysCosts 2 0 0 nx (Qr) (Qx) nx 0 0 76 [(0, .ref 80), (1, .ref r1), (2, vi x2), (4, vi σ.1), (5, vi x5), (6, vi σ.2.1)] [] (hp nx σ.2.2)) (E := fun ρ => ρ = (x4_16, s_17)) hw rfl ?_
  intro σ o' hs' hb' he'
  exact q_Mo_laysCosts_t76 hnx r1 h_r1 x2 σ.1 x5 σ.2.1 σ.2.2 hs' hb' (fun ρ e => by cases he' _ e; exact hE)
set_option maxRecDepth 100000 in
theorem q_Mo_laysCosts_t64 {C : Cx} {nx : Nat} (hnx : 100 ≤ nx) {Qr : Option Value → Hp → Prop} {Qx : String → Hp → Prop}  (r1 : Nat) (h_r1 : isRowW nx r1) (x2 : Int) (x4 : Int) (x5 : Int) (s : Sg) {o : ((Int × Int × Sg) ⊕ (Int × Sg))} (hs : Mo_laysCosts_t64 r1 x2 x4 x5 s = some o) (hb : ∀ σ : Int × Int × Sg, o = .inl σ → ww C M_X12_laysCosts 2 0 0 nx (Qr) (Qx) nx 0 0 64 [(0, .ref 80), (1, .ref r1), (2, vi x2), (4, vi σ.1), (5, vi σ.2.1)] [] (hp nx σ.2.2)) (he0 : ∀ ρ : Int × Sg, o = .inr ρ → ww C M_X12_laysCosts 2 0 0 nx (Qr) (Qx) nx 0 0 152 [(0, .ref 80), (1, .ref r1), (2, vi x2), (4, vi ρ.1)] [] (hp nx ρ.2)) : ww C M_X12_laysCosts 2 0 0 nx (Qr) (Qx) nx 0 0 64 [(0, .ref 80), (1, .ref r1), (2, vi x2), (4, vi x4), (5, vi x5)] [] (hp nx s) := by
  unfold Mo_laysCosts_t64 at hs
  refine w_iload 4 dX12_laysCosts_64 rfl ?_
  refine w_aload_n 0 dX12_laysCosts_66 rfl rfl ?_
  refine x_V_I M_X12_cells [] [vi x5] hs rfl dX12_laysCosts_67 (lkX12_212 _ rfl) (lt_of hnx (Nat.le_of_ble_eq_true rfl)) rfl rfl (Nat.le_of_ble_eq_true rfl) (Nat.le_of_ble_eq_true rfl) (Nat.le_of_ble_eq_true rfl) (Nat.le_of_ble_eq_true rfl) (c_Mo_cells hnx s) (fun y7 hy7 hs => ?_)
  refine x_icmpge hs dX12_laysCosts_70 rfl (fun hs => ?_) (fun hs => ?_)
  · refine w_lv (lv' := [(0, .ref 80), (1, .ref r1), (2, vi x2), (4, vi x4)]) [0, 1, 2, 3] rfl ?_
    cases hs
    exact he0 _ rfl
  · refine x_iconst dX12_laysCosts_73 ?_
    refine w_istore (lv' := [(6, vi 0), (0, .ref 80), (1, .ref r1), (2, vi x2), (4, vi x4), (5, vi x5)]) dX12_laysCosts_74 (Nat.le_of_ble_eq_true rfl) rfl ?_
    refine w_lv (lv' := [(0, .ref 80), (1, .ref r1), (2, vi x2), (4, vi x4), (5, vi x5), (6, vi 0)]) [1, 2, 3, 4, 5, 0] rfl ?_
    exact q_Mo_laysCosts_l76 hnx r1 h_r1 x2 x4 x5 0 s hs hb he0
set_option maxRecDepth 100000 in
theorem q_Mo_laysCosts_l64 {C : Cx} {nx : Nat} (hnx : 100 ≤ nx) {Qr : Option Value → Hp → Prop} {Qx : String → Hp → Prop}  (r1 : Nat) (h_r1 : isRowW nx r1) (x2 : Int) (x4 : Int) (x5 : Int) (s : Sg) {o : ((Int × Sg) ⊕ (Sg))} (hs : Mo_laysCosts_l64 r1 x2 x4 x5 s = some o) (hb : ∀ σ : Int × Sg, o = .inl σ → ww C M_X12_laysCosts 2 0 0 nx (Qr) (Qx) nx 0 0 53 [(0, .ref 80), (1, .ref r1), (2, vi x2), (4, vi σ.1)] [] (hp nx σ.2)) (he0 : ∀ ρ : Sg, o = .inr ρ → ww C M_X12_laysCosts 2 0 0 nx (Qr) (Qx) nx 0 0 155 [] [] (hp nx ρ)) : ww C M_X12_laysCosts 2 0 0 nx (Qr) (Qx) nx 0 0 64 [(0, .ref 80), (1, .ref r1), (2, vi x2), (4, vi x4), (5, vi x5)] [] (hp nx s) := by
  unfold Mo_laysCosts_l64 at hs
  refine bnd_e hs (fun ρ hw hs => ?_)
  obtain ⟨x4_18, s_19⟩ := ρ
  have hE : ww C M_X12_laysCosts 2 0 0 nx (Qr) (Qx) nx 0 0 152 [(0, .ref 80), (1, .ref r1), (2, vi x2), (4, vi x4_18)] [] (hp nx s_19) := by
    refine w_goto dX12_laysCosts_152 rfl ?_
    cases hs
    exact hb _ rfl
  refine whl_w (P := fun σ => ww C M_X12_laysCosts 2 0 0 nx (Qr) (Qx) nx 0 0 64 [(0, .ref 80), (1, .ref r1), (2, vi x2), (4, vi σ.1), (5, vi σ.2.1)] [] (hp nx σ.2.2)) (E := fun ρ => ρ = (x4_18, s_19)) hw rfl ?_
  intro σ o' hs' hb' he'
  exact q_Mo_laysCosts_t64 hnx r1 h_r1 x2 σ.1 σ.2.1 σ.2.2 hs' hb' (fun ρ e => by cases he' _ e; exact hE)
set_option maxRecDepth 100000 in
theorem q_Mo_laysCosts_t53 {C : Cx} {nx : Nat} (hnx : 100 ≤ nx) {Qr : Option Value → Hp → Prop} {Qx : String → Hp → Prop}  (r1 : Nat) (h_r1 : isRowW nx r1) (x2 : Int) (x4 : Int) (s : Sg) {o : ((Int × Sg) ⊕ (Sg))} (hs : Mo_laysCosts_t53 r1 x2 x4 s = some o) (hb : ∀ σ : Int × Sg, o = .inl σ → ww C M_X12_laysCosts 2 0 0 nx (Qr) (Qx) nx 0 0 53 [(0, .ref 80), (1, .ref r1), (2, vi x2), (4, vi σ.1)] [] (hp nx σ.2)) (he0 : ∀ ρ : Sg, o = .inr ρ → ww C M_X12_laysCosts 2 0 0 nx (Qr) (Qx) nx 0 0 155 [] [] (hp nx ρ)) : ww C M_X12_laysCosts 2 0 0 nx (Qr) (Qx) nx 0 0 53 [(0, .ref 80), (1, .ref r1), (2, vi x2), (4, vi x4)] [] (hp nx s) := by
  unfold Mo_laysCosts_t53 at hs
  refine w_iload 3 dX12_laysCosts_53 rfl ?_
  refine x_ifeq hs dX12_laysCosts_55 rfl (fun hs => ?_) (fun hs => ?_)
  · refine w_lv (lv' := []) [] rfl ?_
    cases hs
    exact he0 _ rfl
  · refine x_iconst dX12_laysCosts_58 ?_
    refine w_istore (lv' := [(4, vi 0), (0, .ref 80), (1, .ref r1), (2, vi x2)]) dX12_laysCosts_59 (Nat.le_of_ble_eq_true rfl) rfl ?_
    refine x_iconst dX12_laysCosts_61 ?_
    refine w_istore (lv' := [(5, vi 0), (4, vi 0), (0, .ref 80), (1, .ref r1), (2, vi x2)]) dX12_laysCosts_62 (Nat.le_of_ble_eq_true rfl) rfl ?_
    refine w_lv (lv' := [(0, .ref 80), (1, .ref r1), (2, vi x2), (4, vi 0), (5, vi 0)]) [2, 3, 4, 1, 0] rfl ?_
    exact q_Mo_laysCosts_l64 hnx r1 h_r1 x2 0 0 s hs hb he0
set_option maxRecDepth 100000 in
theorem q_Mo_laysCosts_l53 {C : Cx} {nx : Nat} (hnx : 100 ≤ nx) (r1 : Nat) (h_r1 : isRowW nx r1) (x2 : Int) (x4 : Int) (s : Sg) {o : Sg} (hs : Mo_laysCosts_l53 r1 x2 x4 s = some o) : ww C M_X12_laysCosts 2 0 0 nx (QV nx o) (XF) nx 0 0 53 [(0, .ref 80), (1, .ref r1), (2, vi x2), (4, vi x4)] [] (hp nx s) := by
  unfold Mo_laysCosts_l53 at hs
  refine bnd_e hs (fun s_20 hw hs => ?_)
  have hE : ww C M_X12_laysCosts 2 0 0 nx (QV nx o) (XF) nx 0 0 155 [] [] (hp nx s_20) := by
    cases hs
    exact w_return rfl dX12_laysCosts_155 rfl (Nat.le_of_ble_eq_true rfl) (Nat.le_of_ble_eq_true rfl) ⟨rfl, rfl⟩
  refine whl_w (P := fun σ => ww C M_X12_laysCosts 2 0 0 nx (QV nx o) (XF) nx 0 0 53 [(0, .ref 80), (1, .ref r1), (2, vi x2), (4, vi σ.1)] [] (hp nx σ.2)) (E := fun ρ => ρ = s_20) hw rfl ?_
  intro σ o' hs' hb' he'
  exact q_Mo_laysCosts_t53 hnx r1 h_r1 x2 σ.1 σ.2 hs' hb' (fun ρ e => by cases he' _ e; exact hE)
set_option maxRecDepth 100000 in
theorem q_Mo_laysCosts_l3 {C : Cx} {nx : Nat} (hnx : 100 ≤ nx) (r1 : Nat) (h_r1 : isRowW nx r1) (x2 : Int) (x3 : Int) (x4 : Int) (s : Sg) {o : Sg} (hs : Mo_laysCosts_l3 r1 x2 x3 x4 s = some o) : ww C M_X12_laysCosts 2 0 0 nx (QV nx o) (XF) nx 0 0 3 [(0, .ref 80), (1, .ref r1), (2, vi x2), (3, vi x3), (4, vi x4)] [] (hp nx s) := by
  unfold Mo_laysCosts_l3 at hs
  refine bnd_e hs (fun s_6 hw hs => ?_)
  have hE : ww C M_X12_laysCosts 2 0 0 nx (QV nx o) (XF) nx 0 0 50 [(0, .ref 80), (1, .ref r1), (2, vi x2)] [] (hp nx s_6) := by
    refine x_iconst dX12_laysCosts_50 ?_
    refine w_istore (lv' := [(4, vi 1), (0, .ref 80), (1, .ref r1), (2, vi x2)]) dX12_laysCosts_51 (Nat.le_of_ble_eq_true rfl) rfl ?_
    refine w_lv (lv' := [(0, .ref 80), (1, .ref r1), (2, vi x2), (4, vi 1)]) [1, 2, 3, 0] rfl ?_
    exact q_Mo_laysCosts_l53 hnx r1 h_r1 x2 1 s_6 hs
  refine whl_w (P := fun σ => ww C M_X12_laysCosts 2 0 0 nx (QV nx o) (XF) nx 0 0 3 [(0, .ref 80), (1, .ref r1), (2, vi x2), (3, vi x3), (4, vi σ.1)] [] (hp nx σ.2)) (E := fun ρ => ρ = s_6) hw rfl ?_
  intro σ o' hs' hb' he'
  exact q_Mo_laysCosts_t3 hnx r1 h_r1 x2 x3 σ.1 σ.2 hs' hb' (fun ρ e => by cases he' _ e; exact hE)
set_option maxRecDepth 100000 in
theorem c_Mo_laysCosts {C : Cx} {nx : Nat} (hnx : 100 ≤ nx) (r1 : Nat) (h_r1 : isRowW nx r1) (x2 : Int) (x3 : Int) (s : Sg) : ∀ o, Mo_laysCosts r1 x2 x3 s = some o → mm C M_X12_laysCosts 2 0 0 nx nx [.ref 80, .ref r1, vi x2, vi x3] (hp nx s) (QV nx o) (XF) := by
  intro o hs
  unfold Mo_laysCosts at hs
  refine mm_of rfl rfl (Nat.le_of_ble_eq_true rfl) ?_
  show ww C M_X12_laysCosts 2 0 0 nx (QV nx o) (XF) nx 0 0 0 [(0, .ref 80), (1, .ref r1), (2, vi x2), (3, vi x3)] [] (hp nx s)
  refine x_iconst dX12_laysCosts_0 ?_
  refine w_istore (lv' := [(4, vi 0), (0, .ref 80), (1, .ref r1), (2, vi x2), (3, vi x3)]) dX12_laysCosts_1 (Nat.le_of_ble_eq_true rfl) rfl ?_
  refine w_lv (lv' := [(0, .ref 80), (1, .ref r1), (2, vi x2), (3, vi x3), (4, vi 0)]) [1, 2, 3, 4, 0] rfl ?_
  exact q_Mo_laysCosts_l3 hnx r1 h_r1 x2 x3 0 s hs
set_option maxRecDepth 100000 in
theorem c_Mo_laysWays {C : Cx} {nx : Nat} (hnx : 100 ≤ nx) (x1 : Int) (s : Sg) : ∀ o, Mo_laysWays x1 s = some o → mm C M_X12_laysWays 3 0 0 nx nx [.ref 80, vi x1] (hp nx s) (QV nx o) (XF) := by
  intro o hs
  unfold Mo_laysWays at hs
  refine mm_of rfl rfl (Nat.le_of_ble_eq_true rfl) ?_
  show ww C M_X12_laysWays 3 0 0 nx (QV nx o) (XF) nx 0 0 0 [(0, .ref 80), (1, vi x1)] [] (hp nx s)
  refine w_aload_n 0 dX12_laysWays_0 rfl rfl ?_
  refine w_aload_n 0 dX12_laysWays_1 rfl rfl ?_
  refine x_getR 12 29 (b := 95) dX12_laysWays_2 (fxX12_58 rfl) rfl rfl (lt_of hnx (Nat.le_of_ble_eq_true rfl)) rfl ?_
  refine w_iload_n 1 dX12_laysWays_5 rfl rfl ?_
  refine x_iconst dX12_laysWays_6 ?_
  refine x_V_V M_X12_laysCosts [.ref 95, vi x1, vi 0] [] hs rfl dX12_laysWays_7 (lkX12_358 _ rfl) (lt_of hnx (Nat.le_of_ble_eq_true rfl)) rfl rfl (Nat.le_of_ble_eq_true rfl) (Nat.le_of_ble_eq_true rfl) (Nat.le_of_ble_eq_true rfl) (Nat.le_of_ble_eq_true rfl) (c_Mo_laysCosts hnx 95 (rowW_of rfl (lt_of hnx (Nat.le_of_ble_eq_true rfl))) x1 0 s) (fun s2 hs2 hs => ?_)
  refine w_aload_n 0 dX12_laysWays_10 rfl rfl ?_
  refine w_aload_n 0 dX12_laysWays_11 rfl rfl ?_
  refine x_getR 12 30 (b := 96) dX12_laysWays_12 (fxX12_61 rfl) rfl rfl (lt_of hnx (Nat.le_of_ble_eq_true rfl)) rfl ?_
  refine w_iload_n 1 dX12_laysWays_15 rfl rfl ?_
  refine x_iconst dX12_laysWays_16 ?_
  refine x_V_V M_X12_laysCosts [.ref 96, vi x1, vi 1] [] hs rfl dX12_laysWays_17 (lkX12_358 _ rfl) (lt_of hnx (Nat.le_of_ble_eq_true rfl)) rfl rfl (Nat.le_of_ble_eq_true rfl) (Nat.le_of_ble_eq_true rfl) (Nat.le_of_ble_eq_true rfl) (Nat.le_of_ble_eq_true rfl) (c_Mo_laysCosts hnx 96 (rowW_of rfl (lt_of hnx (Nat.le_of_ble_eq_true rfl))) x1 1 s2) (fun s4 hs4 hs => ?_)
  cases hs
  exact w_return rfl dX12_laysWays_20 rfl (Nat.le_of_ble_eq_true rfl) (Nat.le_of_ble_eq_true rfl) ⟨rfl, rfl⟩
set_option maxRecDepth 100000 in
theorem q_Mo_by_b39 {C : Cx} {nx : Nat} (hnx : 100 ≤ nx)  (s : Sg) {o : Int} (hs : Mo_by_b39  s = some o) : ww C M_X12_by 2 0 0 nx (QI nx s o) (XF) nx 0 0 39 [] [] (hp nx s) := by
  unfold Mo_by_b39 at hs
  refine x_iconst dX12_by_39 ?_
  refine w_goto dX12_by_40 rfl ?_
  cases hs
  exact x_ireturn dX12_by_44 rfl rfl (Nat.le_of_ble_eq_true rfl) (Nat.le_of_ble_eq_true rfl) ⟨rfl, rfl⟩
set_option maxRecDepth 100000 in
theorem c_Mo_by {C : Cx} {nx : Nat} (hnx : 100 ≤ nx) (x1 : Int) (x2 : Int) (s : Sg) : ∀ o, Mo_by x1 x2 s = some o → mm C M_X12_by 2 0 0 nx nx [.ref 80, vi x1, vi x2] (hp nx s) (QI nx s o) (XF) := by
  intro o hs
  unfold Mo_by at hs
  refine mm_of rfl rfl (Nat.le_of_ble_eq_true rfl) ?_
  show ww C M_X12_by 2 0 0 nx (QI nx s o) (XF) nx 0 0 0 [(0, .ref 80), (1, vi x1), (2, vi x2)] [] (hp nx s)
  refine w_aload_n 0 dX12_by_0 rfl rfl ?_
  refine x_getR 12 29 (b := 95) dX12_by_1 (fxX12_58 rfl) rfl rfl (lt_of hnx (Nat.le_of_ble_eq_true rfl)) rfl ?_
  refine w_iload_n 2 dX12_by_4 rfl rfl ?_
  refine grd_e hs (fun hg1 hs => ?_)
  refine x_iald hg1 (Nat.le_of_ble_eq_true rfl) dX12_by_5 (Or.inl ⟨rfl, (lt_of hnx (Nat.le_of_ble_eq_true rfl))⟩) ?_
  refine w_aload_n 0 dX12_by_6 rfl rfl ?_
  refine x_getR 12 30 (b := 96) dX12_by_7 (fxX12_61 rfl) rfl rfl (lt_of hnx (Nat.le_of_ble_eq_true rfl)) rfl ?_
  refine w_iload_n 2 dX12_by_10 rfl rfl ?_
  refine grd_e hs (fun hg2 hs => ?_)
  refine x_iald hg2 (Nat.le_of_ble_eq_true rfl) dX12_by_11 (Or.inl ⟨rfl, (lt_of hnx (Nat.le_of_ble_eq_true rfl))⟩) ?_
  refine x_iadd dX12_by_12 ?_
  refine w_aload_n 0 dX12_by_13 rfl rfl ?_
  refine w_iload_n 1 dX12_by_14 rfl rfl ?_
  refine w_iload_n 2 dX12_by_15 rfl rfl ?_
  refine x_V_I M_X12_cost [vi x1, vi x2] [vi ((gi s 95 x2.toNat) + (gi s 96 x2.toNat))] hs rfl dX12_by_16 (lkX12_355 _ rfl) (lt_of hnx (Nat.le_of_ble_eq_true rfl)) rfl rfl (Nat.le_of_ble_eq_true rfl) (Nat.le_of_ble_eq_true rfl) (Nat.le_of_ble_eq_true rfl) (Nat.le_of_ble_eq_true rfl) (c_Mo_cost hnx x1 x2 s) (fun y3 hy3 hs => ?_)
  refine x_isub dX12_by_19 ?_
  refine x_istore_n (fun x3_4 => [(3, vi x3_4), (0, .ref 80), (1, vi x1), (2, vi x2)]) hs dX12_by_20 rfl (Nat.le_of_ble_eq_true rfl) (fun _ => rfl) (fun x3_4 hs => ?_)
  refine w_aload_n 1 dX12_by_21 rfl rfl ?_
  refine w_iload_n 3 dX12_by_22 rfl rfl ?_
  refine x_V_I M_X12_stone [vi x2] [] hs rfl dX12_by_23 (lkX12_215 _ rfl) (lt_of hnx (Nat.le_of_ble_eq_true rfl)) rfl rfl (Nat.le_of_ble_eq_true rfl) (Nat.le_of_ble_eq_true rfl) (Nat.le_of_ble_eq_true rfl) (Nat.le_of_ble_eq_true rfl) (c_Mo_stone hnx x2 s) (fun y5 hy5 hs => ?_)
  refine x_iconst dX12_by_26 ?_
  refine w_iload_n 2 dX12_by_27 rfl rfl ?_
  refine x_isub dX12_by_28 ?_
  refine x_icmpeq hs dX12_by_29 rfl (fun hs => ?_) (fun hs => ?_)
  · refine w_lv (lv' := []) [] rfl ?_
    exact q_Mo_by_b39 hnx  s hs
  · refine w_iload_n 0 dX12_by_32 rfl rfl ?_
    refine x_sipush dX12_by_33 (by decide) ?_
    refine x_icmplt hs dX12_by_36 rfl (fun hs => ?_) (fun hs => ?_)
    · refine w_iload_n 0 dX12_by_43 rfl rfl ?_
      cases hs
      exact x_ireturn dX12_by_44 rfl rfl (Nat.le_of_ble_eq_true rfl) (Nat.le_of_ble_eq_true rfl) ⟨rfl, rfl⟩
    · refine w_lv (lv' := []) [] rfl ?_
      exact q_Mo_by_b39 hnx  s hs
set_option maxRecDepth 100000 in
theorem q_Mo_leastOf_b40 {C : Cx} {nx : Nat} (hnx : 100 ≤ nx) {Qr : Option Value → Hp → Prop} {Qx : String → Hp → Prop}  (x1 : Int) (x2 : Int) (x3 : Int) (s : Sg) {o : ((Int × Int) ⊕ (Int))} (hs : Mo_leastOf_b40 x1 x2 x3 s = some o) (hb : ∀ σ : Int × Int, o = .inl σ → ww C M_X12_leastOf 3 0 0 nx (Qr) (Qx) nx 0 0 4 [(0, .ref 80), (1, vi x1), (2, vi σ.1), (3, vi σ.2)] [] (hp nx s)) (he0 : ∀ ρ : Int, o = .inr ρ → ww C M_X12_leastOf 3 0 0 nx (Qr) (Qx) nx 0 0 46 [(2, vi ρ)] [] (hp nx s)) : ww C M_X12_leastOf 3 0 0 nx (Qr) (Qx) nx 0 0 40 [(0, .ref 80), (1, vi x1), (2, vi x2), (3, vi x3)] [] (hp nx s) := by
  unfold Mo_leastOf_b40 at hs
  refine x_iinc (lv' := [(3, vi (x3 + 1)), (0, .ref 80), (1, vi x1), (2, vi x2)]) 3 dX12_leastOf_40 rfl (Nat.le_of_ble_eq_true rfl) rfl ?_
  refine w_goto dX12_leastOf_43 rfl ?_
  refine w_lv (lv' := [(0, .ref 80), (1, vi x1), (2, vi x2), (3, vi (x3 + 1))]) [1, 2, 3, 0] rfl ?_
  cases hs
  exact hb _ rfl
set_option maxRecDepth 100000 in
theorem q_Mo_leastOf_b37 {C : Cx} {nx : Nat} (hnx : 100 ≤ nx) {Qr : Option Value → Hp → Prop} {Qx : String → Hp → Prop}  (x1 : Int) (x3 : Int) (x4 : Int) (s : Sg) {o : ((Int × Int) ⊕ (Int))} (hs : Mo_leastOf_b37 x1 x3 x4 s = some o) (hb : ∀ σ : Int × Int, o = .inl σ → ww C M_X12_leastOf 3 0 0 nx (Qr) (Qx) nx 0 0 4 [(0, .ref 80), (1, vi x1), (2, vi σ.1), (3, vi σ.2)] [] (hp nx s)) (he0 : ∀ ρ : Int, o = .inr ρ → ww C M_X12_leastOf 3 0 0 nx (Qr) (Qx) nx 0 0 46 [(2, vi ρ)] [] (hp nx s)) : ww C M_X12_leastOf 3 0 0 nx (Qr) (Qx) nx 0 0 37 [(0, .ref 80), (1, vi x1), (3, vi x3), (4, vi x4)] [] (hp nx s) := by
  unfold Mo_leastOf_b37 at hs
  refine w_iload 3 dX12_leastOf_37 rfl ?_
  refine w_istore_n (lv' := [(2, vi x4), (0, .ref 80), (1, vi x1), (3, vi x3), (4, vi x4)]) dX12_leastOf_39 rfl (Nat.le_of_ble_eq_true rfl) rfl ?_
  refine w_lv (lv' := [(0, .ref 80), (1, vi x1), (2, vi x4), (3, vi x3)]) [1, 2, 0, 3] rfl ?_
  exact q_Mo_leastOf_b40 hnx x1 x4 x3 s hs hb he0
set_option maxRecDepth 100000 in
theorem q_Mo_leastOf_t4 {C : Cx} {nx : Nat} (hnx : 100 ≤ nx) {Qr : Option Value → Hp → Prop} {Qx : String → Hp → Prop}  (x1 : Int) (x2 : Int) (x3 : Int) (s : Sg) {o : ((Int × Int) ⊕ (Int))} (hs : Mo_leastOf_t4 x1 x2 x3 s = some o) (hb : ∀ σ : Int × Int, o = .inl σ → ww C M_X12_leastOf 3 0 0 nx (Qr) (Qx) nx 0 0 4 [(0, .ref 80), (1, vi x1), (2, vi σ.1), (3, vi σ.2)] [] (hp nx s)) (he0 : ∀ ρ : Int, o = .inr ρ → ww C M_X12_leastOf 3 0 0 nx (Qr) (Qx) nx 0 0 46 [(2, vi ρ)] [] (hp nx s)) : ww C M_X12_leastOf 3 0 0 nx (Qr) (Qx) nx 0 0 4 [(0, .ref 80), (1, vi x1), (2, vi x2), (3, vi x3)] [] (hp nx s) := by
  unfold Mo_leastOf_t4 at hs
  refine w_iload_n 3 dX12_leastOf_4 rfl rfl ?_
  refine w_aload_n 0 dX12_leastOf_5 rfl rfl ?_
  refine x_V_I M_X12_cells [] [vi x3] hs rfl dX12_leastOf_6 (lkX12_212 _ rfl) (lt_of hnx (Nat.le_of_ble_eq_true rfl)) rfl rfl (Nat.le_of_ble_eq_true rfl) (Nat.le_of_ble_eq_true rfl) (Nat.le_of_ble_eq_true rfl) (Nat.le_of_ble_eq_true rfl) (c_Mo_cells hnx s) (fun y1 hy1 hs => ?_)
  refine x_icmpge hs dX12_leastOf_9 rfl (fun hs => ?_) (fun hs => ?_)
  · refine w_lv (lv' := [(2, vi x2)]) [2] rfl ?_
    cases hs
    exact he0 _ rfl
  · refine w_aload_n 0 dX12_leastOf_12 rfl rfl ?_
    refine w_iload_n 1 dX12_leastOf_13 rfl rfl ?_
    refine w_iload_n 3 dX12_leastOf_14 rfl rfl ?_
    refine x_V_I M_X12_by [vi x1, vi x3] [] hs rfl dX12_leastOf_15 (lkX12_362 _ rfl) (lt_of hnx (Nat.le_of_ble_eq_true rfl)) rfl rfl (Nat.le_of_ble_eq_true rfl) (Nat.le_of_ble_eq_true rfl) (Nat.le_of_ble_eq_true rfl) (Nat.le_of_ble_eq_true rfl) (c_Mo_by hnx x1 x3 s) (fun y2 hy2 hs => ?_)
    refine w_istore (lv' := [(4, vi y2), (0, .ref 80), (1, vi x1), (2, vi x2), (3, vi x3)]) dX12_leastOf_18 (Nat.le_of_ble_eq_true rfl) rfl ?_
    refine w_iload 0 dX12_leastOf_20 rfl ?_
    refine x_iconst dX12_leastOf_22 ?_
    refine x_icmpeq hs dX12_leastOf_23 rfl (fun hs => ?_) (fun hs => ?_)
    · refine w_lv (lv' := [(0, .ref 80), (1, vi x1), (2, vi x2), (3, vi x3)]) [1, 2, 3, 4] rfl ?_
      exact q_Mo_leastOf_b40 hnx x1 x2 x3 s hs hb he0
    · refine w_iload_n 3 dX12_leastOf_26 rfl rfl ?_
      refine x_iconst dX12_leastOf_27 ?_
      refine x_icmpeq hs dX12_leastOf_28 rfl (fun hs => ?_) (fun hs => ?_)
      · refine w_lv (lv' := [(0, .ref 80), (1, vi x1), (3, vi x3), (4, vi y2)]) [1, 2, 4, 0] rfl ?_
        exact q_Mo_leastOf_b37 hnx x1 x3 y2 s hs hb he0
      · refine w_iload 0 dX12_leastOf_31 rfl ?_
        refine w_iload_n 3 dX12_leastOf_33 rfl rfl ?_
        refine x_icmpge hs dX12_leastOf_34 rfl (fun hs => ?_) (fun hs => ?_)
        · refine w_lv (lv' := [(0, .ref 80), (1, vi x1), (2, vi x2), (3, vi x3)]) [1, 2, 3, 4] rfl ?_
          exact q_Mo_leastOf_b40 hnx x1 x2 x3 s hs hb he0
        · refine w_lv (lv' := [(0, .ref 80), (1, vi x1), (3, vi x3), (4, vi y2)]) [1, 2, 4, 0] rfl ?_
          exact q_Mo_leastOf_b37 hnx x1 x3 y2 s hs hb he0
set_option maxRecDepth 100000 in
theorem q_Mo_leastOf_l4 {C : Cx} {nx : Nat} (hnx : 100 ≤ nx) (x1 : Int) (x2 : Int) (x3 : Int) (s : Sg) {o : Int} (hs : Mo_leastOf_l4 x1 x2 x3 s = some o) : ww C M_X12_leastOf 3 0 0 nx (QI nx s o) (XF) nx 0 0 4 [(0, .ref 80), (1, vi x1), (2, vi x2), (3, vi x3)] [] (hp nx s) := by
  unfold Mo_leastOf_l4 at hs
  refine bnd_e hs (fun x2_3 hw hs => ?_)
  have hE : ww C M_X12_leastOf 3 0 0 nx (QI nx s o) (XF) nx 0 0 46 [(2, vi x2_3)] [] (hp nx s) := by
    refine w_iload_n 0 dX12_leastOf_46 rfl rfl ?_
    cases hs
    exact x_ireturn dX12_leastOf_47 rfl rfl (Nat.le_of_ble_eq_true rfl) (Nat.le_of_ble_eq_true rfl) ⟨rfl, rfl⟩
  refine whl_w (P := fun σ => ww C M_X12_leastOf 3 0 0 nx (QI nx s o) (XF) nx 0 0 4 [(0, .ref 80), (1, vi x1), (2, vi σ.1), (3, vi σ.2)] [] (hp nx s)) (E := fun ρ => ρ = x2_3) hw rfl ?_
  intro σ o' hs' hb' he'
  exact q_Mo_leastOf_t4 hnx x1 σ.1 σ.2 s hs' hb' (fun ρ e => by cases he' _ e; exact hE)
set_option maxRecDepth 100000 in
theorem c_Mo_leastOf {C : Cx} {nx : Nat} (hnx : 100 ≤ nx) (x1 : Int) (s : Sg) : ∀ o, Mo_leastOf x1 s = some o → mm C M_X12_leastOf 3 0 0 nx nx [.ref 80, vi x1] (hp nx s) (QI nx s o) (XF) := by
  intro o hs
  unfold Mo_leastOf at hs
  refine mm_of rfl rfl (Nat.le_of_ble_eq_true rfl) ?_
  show ww C M_X12_leastOf 3 0 0 nx (QI nx s o) (XF) nx 0 0 0 [(0, .ref 80), (1, vi x1)] [] (hp nx s)
  refine x_iconst dX12_leastOf_0 ?_
  refine w_istore_n (lv' := [(2, vi (-1)), (0, .ref 80), (1, vi x1)]) dX12_leastOf_1 rfl (Nat.le_of_ble_eq_true rfl) rfl ?_
  refine x_iconst dX12_leastOf_2 ?_
  refine w_istore_n (lv' := [(3, vi 0), (2, vi (-1)), (0, .ref 80), (1, vi x1)]) dX12_leastOf_3 rfl (Nat.le_of_ble_eq_true rfl) rfl ?_
  refine w_lv (lv' := [(0, .ref 80), (1, vi x1), (2, vi (-1)), (3, vi 0)]) [2, 3, 1, 0] rfl ?_
  exact q_Mo_leastOf_l4 hnx x1 (-1) 0 s hs
set_option maxRecDepth 100000 in
theorem c_Mo_distance {C : Cx} {nx : Nat} (hnx : 100 ≤ nx) (x1 : Int) (s : Sg) : ∀ o, Mo_distance x1 s = some o → mm C M_X12_distance 4 0 0 nx nx [.ref 80, vi x1] (hp nx s) (QI nx o.2 o.1) (XF) := by
  intro o hs
  unfold Mo_distance at hs
  refine mm_of rfl rfl (Nat.le_of_ble_eq_true rfl) ?_
  show ww C M_X12_distance 4 0 0 nx (QI nx o.2 o.1) (XF) nx 0 0 0 [(0, .ref 80), (1, vi x1)] [] (hp nx s)
  refine w_aload_n 0 dX12_distance_0 rfl rfl ?_
  refine w_iload_n 1 dX12_distance_1 rfl rfl ?_
  refine x_V_B M_X12_noSide [vi x1] [] hs rfl dX12_distance_2 (lkX12_323 _ rfl) (lt_of hnx (Nat.le_of_ble_eq_true rfl)) rfl rfl (Nat.le_of_ble_eq_true rfl) (Nat.le_of_ble_eq_true rfl) (Nat.le_of_ble_eq_true rfl) (Nat.le_of_ble_eq_true rfl) (c_Mo_noSide hnx x1 s) (fun y1 s2 hy1 hs => ?_)
  refine x_ifeq hs dX12_distance_5 rfl (fun hs => ?_) (fun hs => ?_)
  · refine w_aload_n 0 dX12_distance_10 rfl rfl ?_
    refine w_iload_n 1 dX12_distance_11 rfl rfl ?_
    refine x_V_V M_X12_laysWays [vi x1] [] hs rfl dX12_distance_12 (lkX12_365 _ rfl) (lt_of hnx (Nat.le_of_ble_eq_true rfl)) rfl rfl (Nat.le_of_ble_eq_true rfl) (Nat.le_of_ble_eq_true rfl) (Nat.le_of_ble_eq_true rfl) (Nat.le_of_ble_eq_true rfl) (c_Mo_laysWays hnx x1 s2) (fun s4 hs4 hs => ?_)
    refine w_aload_n 0 dX12_distance_15 rfl rfl ?_
    refine w_iload_n 1 dX12_distance_16 rfl rfl ?_
    refine x_V_I M_X12_leastOf [vi x1] [] hs rfl dX12_distance_17 (lkX12_368 _ rfl) (lt_of hnx (Nat.le_of_ble_eq_true rfl)) rfl rfl (Nat.le_of_ble_eq_true rfl) (Nat.le_of_ble_eq_true rfl) (Nat.le_of_ble_eq_true rfl) (Nat.le_of_ble_eq_true rfl) (c_Mo_leastOf hnx x1 s4) (fun y5 hy5 hs => ?_)
    cases hs
    exact x_ireturn dX12_distance_20 rfl rfl (Nat.le_of_ble_eq_true rfl) (Nat.le_of_ble_eq_true rfl) ⟨rfl, rfl⟩
  · refine x_iconst dX12_distance_8 ?_
    cases hs
    exact x_ireturn dX12_distance_9 rfl rfl (Nat.le_of_ble_eq_true rfl) (Nat.le_of_ble_eq_true rfl) ⟨rfl, rfl⟩
set_option maxRecDepth 100000 in
theorem q_Mo_through_b22 {C : Cx} {nx : Nat} (hnx : 100 ≤ nx) (x1 : Int) (x2 : Int) (t1 : Int) (s : Sg) {o : Int × Sg} (hs : Mo_through_b22 x1 x2 t1 s = some o) : ww C M_X12_through 4 0 0 nx (QI nx o.2 o.1) (XF) nx 0 0 22 [(0, .ref 80), (1, vi x1), (2, vi x2)] [vi t1, .ref 80] (hp nx s) := by
  unfold Mo_through_b22 at hs
  refine x_iconst dX12_through_22 ?_
  refine x_V_B M_X12_throwsIf [vi t1, vi 2] [] hs rfl dX12_through_23 (lkX12_313 _ rfl) (lt_of hnx (Nat.le_of_ble_eq_true rfl)) rfl rfl (Nat.le_of_ble_eq_true rfl) (Nat.le_of_ble_eq_true rfl) (Nat.le_of_ble_eq_true rfl) (Nat.le_of_ble_eq_true rfl) (c_Mo_throwsIf hnx t1 2 s) (fun y4 s5 hy4 hs => ?_)
  refine x_ifeq hs dX12_through_26 rfl (fun hs => ?_) (fun hs => ?_)
  · refine w_aload_n 0 dX12_through_31 rfl rfl ?_
    refine w_iload_n 1 dX12_through_32 rfl rfl ?_
    refine x_V_V M_X12_laysWays [vi x1] [] hs rfl dX12_through_33 (lkX12_365 _ rfl) (lt_of hnx (Nat.le_of_ble_eq_true rfl)) rfl rfl (Nat.le_of_ble_eq_true rfl) (Nat.le_of_ble_eq_true rfl) (Nat.le_of_ble_eq_true rfl) (Nat.le_of_ble_eq_true rfl) (c_Mo_laysWays hnx x1 s5) (fun s7 hs7 hs => ?_)
    refine w_aload_n 0 dX12_through_36 rfl rfl ?_
    refine w_iload_n 1 dX12_through_37 rfl rfl ?_
    refine w_iload_n 2 dX12_through_38 rfl rfl ?_
    refine x_V_I M_X12_by [vi x1, vi x2] [] hs rfl dX12_through_39 (lkX12_362 _ rfl) (lt_of hnx (Nat.le_of_ble_eq_true rfl)) rfl rfl (Nat.le_of_ble_eq_true rfl) (Nat.le_of_ble_eq_true rfl) (Nat.le_of_ble_eq_true rfl) (Nat.le_of_ble_eq_true rfl) (c_Mo_by hnx x1 x2 s7) (fun y8 hy8 hs => ?_)
    cases hs
    exact x_ireturn dX12_through_42 rfl rfl (Nat.le_of_ble_eq_true rfl) (Nat.le_of_ble_eq_true rfl) ⟨rfl, rfl⟩
  · refine x_iconst dX12_through_29 ?_
    cases hs
    exact x_ireturn dX12_through_30 rfl rfl (Nat.le_of_ble_eq_true rfl) (Nat.le_of_ble_eq_true rfl) ⟨rfl, rfl⟩
set_option maxRecDepth 100000 in
theorem c_Mo_through {C : Cx} {nx : Nat} (hnx : 100 ≤ nx) (x1 : Int) (x2 : Int) (s : Sg) : ∀ o, Mo_through x1 x2 s = some o → mm C M_X12_through 4 0 0 nx nx [.ref 80, vi x1, vi x2] (hp nx s) (QI nx o.2 o.1) (XF) := by
  intro o hs
  unfold Mo_through at hs
  refine mm_of rfl rfl (Nat.le_of_ble_eq_true rfl) ?_
  show ww C M_X12_through 4 0 0 nx (QI nx o.2 o.1) (XF) nx 0 0 0 [(0, .ref 80), (1, vi x1), (2, vi x2)] [] (hp nx s)
  refine w_aload_n 0 dX12_through_0 rfl rfl ?_
  refine w_iload_n 1 dX12_through_1 rfl rfl ?_
  refine x_V_B M_X12_noSide [vi x1] [] hs rfl dX12_through_2 (lkX12_323 _ rfl) (lt_of hnx (Nat.le_of_ble_eq_true rfl)) rfl rfl (Nat.le_of_ble_eq_true rfl) (Nat.le_of_ble_eq_true rfl) (Nat.le_of_ble_eq_true rfl) (Nat.le_of_ble_eq_true rfl) (c_Mo_noSide hnx x1 s) (fun y1 s2 hy1 hs => ?_)
  refine x_ifne hs dX12_through_5 rfl (fun hs => ?_) (fun hs => ?_)
  · refine x_iconst dX12_through_29 ?_
    cases hs
    exact x_ireturn dX12_through_30 rfl rfl (Nat.le_of_ble_eq_true rfl) (Nat.le_of_ble_eq_true rfl) ⟨rfl, rfl⟩
  · refine w_aload_n 0 dX12_through_8 rfl rfl ?_
    refine w_aload_n 0 dX12_through_9 rfl rfl ?_
    refine w_iload_n 2 dX12_through_10 rfl rfl ?_
    refine x_V_I M_X12_isCell [vi x2] [.ref 80] hs rfl dX12_through_11 (lkX12_302 _ rfl) (lt_of hnx (Nat.le_of_ble_eq_true rfl)) rfl rfl (Nat.le_of_ble_eq_true rfl) (Nat.le_of_ble_eq_true rfl) (Nat.le_of_ble_eq_true rfl) (Nat.le_of_ble_eq_true rfl) (c_Mo_isCell hnx x2 s2) (fun y3 hy3 hs => ?_)
    refine x_ifne hs dX12_through_14 rfl (fun hs => ?_) (fun hs => ?_)
    · refine x_iconst dX12_through_21 ?_
      exact q_Mo_through_b22 hnx x1 x2 0 s2 hs
    · refine x_iconst dX12_through_17 ?_
      refine w_goto dX12_through_18 rfl ?_
      exact q_Mo_through_b22 hnx x1 x2 1 s2 hs
set_option maxRecDepth 100000 in
theorem q_Mo_useful_b67 {C : Cx} {nx : Nat} (hnx : 100 ≤ nx) {Qr : Option Value → Hp → Prop} {Qx : String → Hp → Prop}  (x1 : Int) (x2 : Int) (x4 : Int) (t0 : Int) (t1 : Int) (s : Sg) {o : ((Int × Int) ⊕ (Int))} (hs : Mo_useful_b67 x1 x2 x4 t0 t1 s = some o) (hb : ∀ σ : Int × Int, o = .inl σ → ww C M_X12_useful 4 0 0 nx (Qr) (Qx) nx 0 0 26 [(0, .ref 80), (1, vi x1), (2, vi x2), (3, vi σ.1), (4, vi σ.2)] [] (hp nx s)) (he0 : ∀ ρ : Int, o = .inr ρ → ww C M_X12_useful 4 0 0 nx (Qr) (Qx) nx 0 0 75 [(3, vi ρ)] [] (hp nx s)) : ww C M_X12_useful 4 0 0 nx (Qr) (Qx) nx 0 0 67 [(0, .ref 80), (1, vi x1), (2, vi x2), (4, vi x4)] [vi t1, vi t0] (hp nx s) := by
  unfold Mo_useful_b67 at hs
  refine x_iadd dX12_useful_67 ?_
  refine x_istore_n (fun x3_8 => [(3, vi x3_8), (0, .ref 80), (1, vi x1), (2, vi x2), (4, vi x4)]) hs dX12_useful_68 rfl (Nat.le_of_ble_eq_true rfl) (fun _ => rfl) (fun x3_8 hs => ?_)
  refine x_iinc (lv' := [(4, vi (x4 + 1)), (3, vi x3_8), (0, .ref 80), (1, vi x1), (2, vi x2)]) 4 dX12_useful_69 rfl (Nat.le_of_ble_eq_true rfl) rfl ?_
  refine w_goto dX12_useful_72 rfl ?_
  refine w_lv (lv' := [(0, .ref 80), (1, vi x1), (2, vi x2), (3, vi x3_8), (4, vi (x4 + 1))]) [2, 3, 4, 1, 0] rfl ?_
  cases hs
  exact hb _ rfl
set_option maxRecDepth 100000 in
theorem q_Mo_useful_b66 {C : Cx} {nx : Nat} (hnx : 100 ≤ nx) {Qr : Option Value → Hp → Prop} {Qx : String → Hp → Prop}  (x1 : Int) (x2 : Int) (x4 : Int) (t0 : Int) (s : Sg) {o : ((Int × Int) ⊕ (Int))} (hs : Mo_useful_b66 x1 x2 x4 t0 s = some o) (hb : ∀ σ : Int × Int, o = .inl σ → ww C M_X12_useful 4 0 0 nx (Qr) (Qx) nx 0 0 26 [(0, .ref 80), (1, vi x1), (2, vi x2), (3, vi σ.1), (4, vi σ.2)] [] (hp nx s)) (he0 : ∀ ρ : Int, o = .inr ρ → ww C M_X12_useful 4 0 0 nx (Qr) (Qx) nx 0 0 75 [(3, vi ρ)] [] (hp nx s)) : ww C M_X12_useful 4 0 0 nx (Qr) (Qx) nx 0 0 66 [(0, .ref 80), (1, vi x1), (2, vi x2), (4, vi x4)] [vi t0] (hp nx s) := by
  unfold Mo_useful_b66 at hs
  refine x_iconst dX12_useful_66 ?_
  exact q_Mo_useful_b67 hnx x1 x2 x4 t0 0 s hs hb he0
set_option maxRecDepth 100000 in
theorem q_Mo_useful_t26 {C : Cx} {nx : Nat} (hnx : 100 ≤ nx) {Qr : Option Value → Hp → Prop} {Qx : String → Hp → Prop}  (x1 : Int) (x2 : Int) (x3 : Int) (x4 : Int) (s : Sg) {o : ((Int × Int) ⊕ (Int))} (hs : Mo_useful_t26 x1 x2 x3 x4 s = some o) (hb : ∀ σ : Int × Int, o = .inl σ → ww C M_X12_useful 4 0 0 nx (Qr) (Qx) nx 0 0 26 [(0, .ref 80), (1, vi x1), (2, vi x2), (3, vi σ.1), (4, vi σ.2)] [] (hp nx s)) (he0 : ∀ ρ : Int, o = .inr ρ → ww C M_X12_useful 4 0 0 nx (Qr) (Qx) nx 0 0 75 [(3, vi ρ)] [] (hp nx s)) : ww C M_X12_useful 4 0 0 nx (Qr) (Qx) nx 0 0 26 [(0, .ref 80), (1, vi x1), (2, vi x2), (3, vi x3), (4, vi x4)] [] (hp nx s) := by
  unfold Mo_useful_t26 at hs
  refine w_iload 4 dX12_useful_26 rfl ?_
  refine w_aload_n 0 dX12_useful_28 rfl rfl ?_
  refine x_V_I M_X12_cells [] [vi x4] hs rfl dX12_useful_29 (lkX12_212 _ rfl) (lt_of hnx (Nat.le_of_ble_eq_true rfl)) rfl rfl (Nat.le_of_ble_eq_true rfl) (Nat.le_of_ble_eq_true rfl) (Nat.le_of_ble_eq_true rfl) (Nat.le_of_ble_eq_true rfl) (c_Mo_cells hnx s) (fun y6 hy6 hs => ?_)
  refine x_icmpge hs dX12_useful_32 rfl (fun hs => ?_) (fun hs => ?_)
  · refine w_lv (lv' := [(3, vi x3)]) [3] rfl ?_
    cases hs
    exact he0 _ rfl
  · refine w_iload_n 3 dX12_useful_35 rfl rfl ?_
    refine w_aload_n 0 dX12_useful_36 rfl rfl ?_
    refine w_iload 4 dX12_useful_37 rfl ?_
    refine x_V_I M_X12_stone [vi x4] [vi x3] hs rfl dX12_useful_39 (lkX12_215 _ rfl) (lt_of hnx (Nat.le_of_ble_eq_true rfl)) rfl rfl (Nat.le_of_ble_eq_true rfl) (Nat.le_of_ble_eq_true rfl) (Nat.le_of_ble_eq_true rfl) (Nat.le_of_ble_eq_true rfl) (c_Mo_stone hnx x4 s) (fun y7 hy7 hs => ?_)
    refine x_iconst dX12_useful_42 ?_
    refine x_icmpne hs dX12_useful_43 rfl (fun hs => ?_) (fun hs => ?_)
    · refine w_lv (lv' := [(0, .ref 80), (1, vi x1), (2, vi x2), (4, vi x4)]) [0, 1, 2, 4] rfl ?_
      exact q_Mo_useful_b66 hnx x1 x2 x4 x3 s hs hb he0
    · refine w_iload_n 2 dX12_useful_46 rfl rfl ?_
      refine x_iconst dX12_useful_47 ?_
      refine x_icmpeq hs dX12_useful_48 rfl (fun hs => ?_) (fun hs => ?_)
      · refine w_lv (lv' := [(0, .ref 80), (1, vi x1), (2, vi x2), (4, vi x4)]) [0, 1, 2, 4] rfl ?_
        exact q_Mo_useful_b66 hnx x1 x2 x4 x3 s hs hb he0
      · refine w_aload_n 0 dX12_useful_51 rfl rfl ?_
        refine w_iload_n 1 dX12_useful_52 rfl rfl ?_
        refine w_iload 4 dX12_useful_53 rfl ?_
        refine x_V_I M_X12_by [vi x1, vi x4] [vi x3] hs rfl dX12_useful_55 (lkX12_362 _ rfl) (lt_of hnx (Nat.le_of_ble_eq_true rfl)) rfl rfl (Nat.le_of_ble_eq_true rfl) (Nat.le_of_ble_eq_true rfl) (Nat.le_of_ble_eq_true rfl) (Nat.le_of_ble_eq_true rfl) (c_Mo_by hnx x1 x4 s) (fun y9 hy9 hs => ?_)
        refine w_iload_n 2 dX12_useful_58 rfl rfl ?_
        refine x_icmpne hs dX12_useful_59 rfl (fun hs => ?_) (fun hs => ?_)
        · refine w_lv (lv' := [(0, .ref 80), (1, vi x1), (2, vi x2), (4, vi x4)]) [0, 1, 2, 4] rfl ?_
          exact q_Mo_useful_b66 hnx x1 x2 x4 x3 s hs hb he0
        · refine x_iconst dX12_useful_62 ?_
          refine w_goto dX12_useful_63 rfl ?_
          refine w_lv (lv' := [(0, .ref 80), (1, vi x1), (2, vi x2), (4, vi x4)]) [0, 1, 2, 4] rfl ?_
          exact q_Mo_useful_b67 hnx x1 x2 x4 x3 1 s hs hb he0
set_option maxRecDepth 100000 in
theorem q_Mo_useful_l26 {C : Cx} {nx : Nat} (hnx : 100 ≤ nx) (x1 : Int) (x2 : Int) (x3 : Int) (x4 : Int) (s : Sg) {o : Int × Sg} (hs : Mo_useful_l26 x1 x2 x3 x4 s = some o) : ww C M_X12_useful 4 0 0 nx (QI nx o.2 o.1) (XF) nx 0 0 26 [(0, .ref 80), (1, vi x1), (2, vi x2), (3, vi x3), (4, vi x4)] [] (hp nx s) := by
  unfold Mo_useful_l26 at hs
  refine bnd_e hs (fun x3_10 hw hs => ?_)
  have hE : ww C M_X12_useful 4 0 0 nx (QI nx o.2 o.1) (XF) nx 0 0 75 [(3, vi x3_10)] [] (hp nx s) := by
    refine w_iload_n 0 dX12_useful_75 rfl rfl ?_
    cases hs
    exact x_ireturn dX12_useful_76 rfl rfl (Nat.le_of_ble_eq_true rfl) (Nat.le_of_ble_eq_true rfl) ⟨rfl, rfl⟩
  refine whl_w (P := fun σ => ww C M_X12_useful 4 0 0 nx (QI nx o.2 o.1) (XF) nx 0 0 26 [(0, .ref 80), (1, vi x1), (2, vi x2), (3, vi σ.1), (4, vi σ.2)] [] (hp nx s)) (E := fun ρ => ρ = x3_10) hw rfl ?_
  intro σ o' hs' hb' he'
  exact q_Mo_useful_t26 hnx x1 x2 σ.1 σ.2 s hs' hb' (fun ρ e => by cases he' _ e; exact hE)
set_option maxRecDepth 100000 in
theorem c_Mo_useful {C : Cx} {nx : Nat} (hnx : 100 ≤ nx) (x1 : Int) (s : Sg) : ∀ o, Mo_useful x1 s = some o → mm C M_X12_useful 4 0 0 nx nx [.ref 80, vi x1] (hp nx s) (QI nx o.2 o.1) (XF) := by
  intro o hs
  unfold Mo_useful at hs
  refine mm_of rfl rfl (Nat.le_of_ble_eq_true rfl) ?_
  show ww C M_X12_useful 4 0 0 nx (QI nx o.2 o.1) (XF) nx 0 0 0 [(0, .ref 80), (1, vi x1)] [] (hp nx s)
  refine w_aload_n 0 dX12_useful_0 rfl rfl ?_
  refine w_iload_n 1 dX12_useful_1 rfl rfl ?_
  refine x_V_B M_X12_noSide [vi x1] [] hs rfl dX12_useful_2 (lkX12_323 _ rfl) (lt_of hnx (Nat.le_of_ble_eq_true rfl)) rfl rfl (Nat.le_of_ble_eq_true rfl) (Nat.le_of_ble_eq_true rfl) (Nat.le_of_ble_eq_true rfl) (Nat.le_of_ble_eq_true rfl) (c_Mo_noSide hnx x1 s) (fun y1 s2 hy1 hs => ?_)
  refine x_ifeq hs dX12_useful_5 rfl (fun hs => ?_) (fun hs => ?_)
  · refine w_aload_n 0 dX12_useful_10 rfl rfl ?_
    refine w_iload_n 1 dX12_useful_11 rfl rfl ?_
    refine x_V_V M_X12_laysWays [vi x1] [] hs rfl dX12_useful_12 (lkX12_365 _ rfl) (lt_of hnx (Nat.le_of_ble_eq_true rfl)) rfl rfl (Nat.le_of_ble_eq_true rfl) (Nat.le_of_ble_eq_true rfl) (Nat.le_of_ble_eq_true rfl) (Nat.le_of_ble_eq_true rfl) (c_Mo_laysWays hnx x1 s2) (fun s4 hs4 hs => ?_)
    refine w_aload_n 0 dX12_useful_15 rfl rfl ?_
    refine w_iload_n 1 dX12_useful_16 rfl rfl ?_
    refine x_V_I M_X12_leastOf [vi x1] [] hs rfl dX12_useful_17 (lkX12_368 _ rfl) (lt_of hnx (Nat.le_of_ble_eq_true rfl)) rfl rfl (Nat.le_of_ble_eq_true rfl) (Nat.le_of_ble_eq_true rfl) (Nat.le_of_ble_eq_true rfl) (Nat.le_of_ble_eq_true rfl) (c_Mo_leastOf hnx x1 s4) (fun y5 hy5 hs => ?_)
    refine w_istore_n (lv' := [(2, vi y5), (0, .ref 80), (1, vi x1)]) dX12_useful_20 rfl (Nat.le_of_ble_eq_true rfl) rfl ?_
    refine x_iconst dX12_useful_21 ?_
    refine w_istore_n (lv' := [(3, vi 0), (2, vi y5), (0, .ref 80), (1, vi x1)]) dX12_useful_22 rfl (Nat.le_of_ble_eq_true rfl) rfl ?_
    refine x_iconst dX12_useful_23 ?_
    refine w_istore (lv' := [(4, vi 0), (3, vi 0), (2, vi y5), (0, .ref 80), (1, vi x1)]) dX12_useful_24 (Nat.le_of_ble_eq_true rfl) rfl ?_
    refine w_lv (lv' := [(0, .ref 80), (1, vi x1), (2, vi y5), (3, vi 0), (4, vi 0)]) [3, 4, 2, 1, 0] rfl ?_
    exact q_Mo_useful_l26 hnx x1 y5 0 0 s4 hs
  · refine x_iconst dX12_useful_8 ?_
    cases hs
    exact x_ireturn dX12_useful_9 rfl rfl (Nat.le_of_ble_eq_true rfl) (Nat.le_of_ble_eq_true rfl) ⟨rfl, rfl⟩
set_option maxRecDepth 100000 in
theorem q_Mo_shared_t12 {C : Cx} {nx : Nat} (hnx : 100 ≤ nx) {Qr : Option Value → Hp → Prop} {Qx : String → Hp → Prop}  (x1 : Int) (s : Sg) {o : ((Int × Sg) ⊕ (Sg))} (hs : Mo_shared_t12 x1 s = some o) (hb : ∀ σ : Int × Sg, o = .inl σ → ww C M_X12_shared 4 0 0 nx (Qr) (Qx) nx 0 0 12 [(0, .ref 80), (1, vi σ.1)] [] (hp nx σ.2)) (he0 : ∀ ρ : Sg, o = .inr ρ → ww C M_X12_shared 4 0 0 nx (Qr) (Qx) nx 0 0 38 [(0, .ref 80)] [] (hp nx ρ)) : ww C M_X12_shared 4 0 0 nx (Qr) (Qx) nx 0 0 12 [(0, .ref 80), (1, vi x1)] [] (hp nx s) := by
  unfold Mo_shared_t12 at hs
  refine w_iload_n 1 dX12_shared_12 rfl rfl ?_
  refine w_aload_n 0 dX12_shared_13 rfl rfl ?_
  refine x_V_I M_X12_cells [] [vi x1] hs rfl dX12_shared_14 (lkX12_212 _ rfl) (lt_of hnx (Nat.le_of_ble_eq_true rfl)) rfl rfl (Nat.le_of_ble_eq_true rfl) (Nat.le_of_ble_eq_true rfl) (Nat.le_of_ble_eq_true rfl) (Nat.le_of_ble_eq_true rfl) (c_Mo_cells hnx s) (fun y4 hy4 hs => ?_)
  refine x_icmpge hs dX12_shared_17 rfl (fun hs => ?_) (fun hs => ?_)
  · refine w_lv (lv' := [(0, .ref 80)]) [0] rfl ?_
    cases hs
    exact he0 _ rfl
  · refine w_aload_n 0 dX12_shared_20 rfl rfl ?_
    refine x_getR 12 31 (b := 97) dX12_shared_21 (fxX12_64 rfl) rfl rfl (lt_of hnx (Nat.le_of_ble_eq_true rfl)) rfl ?_
    refine w_iload_n 1 dX12_shared_24 rfl rfl ?_
    refine w_aload_n 0 dX12_shared_25 rfl rfl ?_
    refine x_iconst dX12_shared_26 ?_
    refine w_iload_n 1 dX12_shared_27 rfl rfl ?_
    refine x_V_I M_X12_by [vi 0, vi x1] [vi x1, .ref 97] hs rfl dX12_shared_28 (lkX12_362 _ rfl) (lt_of hnx (Nat.le_of_ble_eq_true rfl)) rfl rfl (Nat.le_of_ble_eq_true rfl) (Nat.le_of_ble_eq_true rfl) (Nat.le_of_ble_eq_true rfl) (Nat.le_of_ble_eq_true rfl) (c_Mo_by hnx 0 x1 s) (fun y5 hy5 hs => ?_)
    refine grd_e hs (fun hg6 hs => ?_)
    refine x_iast hg6 (Nat.le_of_ble_eq_true rfl) dX12_shared_31 rfl (lt_of hnx (Nat.le_of_ble_eq_true rfl)) ?_
    refine nam_s hs (fun s7 hs => ?_)
    refine x_iinc (lv' := [(1, vi (x1 + 1)), (0, .ref 80)]) 1 dX12_shared_32 rfl (Nat.le_of_ble_eq_true rfl) rfl ?_
    refine w_goto dX12_shared_35 rfl ?_
    refine w_lv (lv' := [(0, .ref 80), (1, vi (x1 + 1))]) [1, 0] rfl ?_
    cases hs
    exact hb _ rfl
set_option maxRecDepth 100000 in
theorem q_Mo_shared_b123 {C : Cx} {nx : Nat} (hnx : 100 ≤ nx) {Qr : Option Value → Hp → Prop} {Qx : String → Hp → Prop}  (x1 : Int) (x2 : Int) (x3 : Int) (s : Sg) {o : ((Int × Int × Int) ⊕ (Int))} (hs : Mo_shared_b123 x1 x2 x3 s = some o) (hb : ∀ σ : Int × Int × Int, o = .inl σ → ww C M_X12_shared 4 0 0 nx (Qr) (Qx) nx 0 0 49 [(0, .ref 80), (1, vi σ.1), (2, vi σ.2.1), (3, vi σ.2.2)] [] (hp nx s)) (he0 : ∀ ρ : Int, o = .inr ρ → ww C M_X12_shared 4 0 0 nx (Qr) (Qx) nx 0 0 129 [(1, vi ρ)] [] (hp nx s)) : ww C M_X12_shared 4 0 0 nx (Qr) (Qx) nx 0 0 123 [(0, .ref 80), (1, vi x1), (2, vi x2), (3, vi x3)] [] (hp nx s) := by
  unfold Mo_shared_b123 at hs
  refine x_iinc (lv' := [(3, vi (x3 + 1)), (0, .ref 80), (1, vi x1), (2, vi x2)]) 3 dX12_shared_123 rfl (Nat.le_of_ble_eq_true rfl) rfl ?_
  refine w_goto dX12_shared_126 rfl ?_
  refine w_lv (lv' := [(0, .ref 80), (1, vi x1), (2, vi x2), (3, vi (x3 + 1))]) [1, 2, 3, 0] rfl ?_
  cases hs
  exact hb _ rfl
set_option maxRecDepth 100000 in
theorem q_Mo_shared_b118 {C : Cx} {nx : Nat} (hnx : 100 ≤ nx) {Qr : Option Value → Hp → Prop} {Qx : String → Hp → Prop}  (x3 : Int) (x4 : Int) (s : Sg) {o : ((Int × Int × Int) ⊕ (Int))} (hs : Mo_shared_b118 x3 x4 s = some o) (hb : ∀ σ : Int × Int × Int, o = .inl σ → ww C M_X12_shared 4 0 0 nx (Qr) (Qx) nx 0 0 49 [(0, .ref 80), (1, vi σ.1), (2, vi σ.2.1), (3, vi σ.2.2)] [] (hp nx s)) (he0 : ∀ ρ : Int, o = .inr ρ → ww C M_X12_shared 4 0 0 nx (Qr) (Qx) nx 0 0 129 [(1, vi ρ)] [] (hp nx s)) : ww C M_X12_shared 4 0 0 nx (Qr) (Qx) nx 0 0 118 [(0, .ref 80), (3, vi x3), (4, vi x4)] [] (hp nx s) := by
  unfold Mo_shared_b118 at hs
  refine w_iload_n 1 dX12_shared_118 rfl rfl ?_
  refine w_istore_n (lv' := [(1, vi x3), (0, .ref 80), (3, vi x3), (4, vi x4)]) dX12_shared_119 rfl (Nat.le_of_ble_eq_true rfl) rfl ?_
  refine w_iload 3 dX12_shared_120 rfl ?_
  refine w_istore_n (lv' := [(2, vi x4), (1, vi x3), (0, .ref 80), (3, vi x3), (4, vi x4)]) dX12_shared_122 rfl (Nat.le_of_ble_eq_true rfl) rfl ?_
  refine w_lv (lv' := [(0, .ref 80), (1, vi x3), (2, vi x4), (3, vi x3)]) [2, 1, 0, 3] rfl ?_
  exact q_Mo_shared_b123 hnx x3 x4 x3 s hs hb he0
set_option maxRecDepth 100000 in
theorem q_Mo_shared_t49 {C : Cx} {nx : Nat} (hnx : 100 ≤ nx) {Qr : Option Value → Hp → Prop} {Qx : String → Hp → Prop}  (x1 : Int) (x2 : Int) (x3 : Int) (s : Sg) {o : ((Int × Int × Int) ⊕ (Int))} (hs : Mo_shared_t49 x1 x2 x3 s = some o) (hb : ∀ σ : Int × Int × Int, o = .inl σ → ww C M_X12_shared 4 0 0 nx (Qr) (Qx) nx 0 0 49 [(0, .ref 80), (1, vi σ.1), (2, vi σ.2.1), (3, vi σ.2.2)] [] (hp nx s)) (he0 : ∀ ρ : Int, o = .inr ρ → ww C M_X12_shared 4 0 0 nx (Qr) (Qx) nx 0 0 129 [(1, vi ρ)] [] (hp nx s)) : ww C M_X12_shared 4 0 0 nx (Qr) (Qx) nx 0 0 49 [(0, .ref 80), (1, vi x1), (2, vi x2), (3, vi x3)] [] (hp nx s) := by
  unfold Mo_shared_t49 at hs
  refine w_iload_n 3 dX12_shared_49 rfl rfl ?_
  refine w_aload_n 0 dX12_shared_50 rfl rfl ?_
  refine x_V_I M_X12_cells [] [vi x3] hs rfl dX12_shared_51 (lkX12_212 _ rfl) (lt_of hnx (Nat.le_of_ble_eq_true rfl)) rfl rfl (Nat.le_of_ble_eq_true rfl) (Nat.le_of_ble_eq_true rfl) (Nat.le_of_ble_eq_true rfl) (Nat.le_of_ble_eq_true rfl) (c_Mo_cells hnx s) (fun y11 hy11 hs => ?_)
  refine x_icmpge hs dX12_shared_54 rfl (fun hs => ?_) (fun hs => ?_)
  · refine w_lv (lv' := [(1, vi x1)]) [1] rfl ?_
    cases hs
    exact he0 _ rfl
  · refine w_aload_n 0 dX12_shared_57 rfl rfl ?_
    refine w_iload_n 3 dX12_shared_58 rfl rfl ?_
    refine x_V_I M_X12_stone [vi x3] [] hs rfl dX12_shared_59 (lkX12_215 _ rfl) (lt_of hnx (Nat.le_of_ble_eq_true rfl)) rfl rfl (Nat.le_of_ble_eq_true rfl) (Nat.le_of_ble_eq_true rfl) (Nat.le_of_ble_eq_true rfl) (Nat.le_of_ble_eq_true rfl) (c_Mo_stone hnx x3 s) (fun y12 hy12 hs => ?_)
    refine x_iconst dX12_shared_62 ?_
    refine x_icmpne hs dX12_shared_63 rfl (fun hs => ?_) (fun hs => ?_)
    · exact q_Mo_shared_b123 hnx x1 x2 x3 s hs hb he0
    · refine w_aload_n 0 dX12_shared_66 rfl rfl ?_
      refine x_getR 12 31 (b := 97) dX12_shared_67 (fxX12_64 rfl) rfl rfl (lt_of hnx (Nat.le_of_ble_eq_true rfl)) rfl ?_
      refine w_iload_n 3 dX12_shared_70 rfl rfl ?_
      refine grd_e hs (fun hg13 hs => ?_)
      refine x_iald hg13 (Nat.le_of_ble_eq_true rfl) dX12_shared_71 (Or.inl ⟨rfl, (lt_of hnx (Nat.le_of_ble_eq_true rfl))⟩) ?_
      refine x_iconst dX12_shared_72 ?_
      refine x_icmpeq hs dX12_shared_73 rfl (fun hs => ?_) (fun hs => ?_)
      · exact q_Mo_shared_b123 hnx x1 x2 x3 s hs hb he0
      · refine w_aload_n 0 dX12_shared_76 rfl rfl ?_
        refine x_iconst dX12_shared_77 ?_
        refine w_iload_n 3 dX12_shared_78 rfl rfl ?_
        refine x_V_I M_X12_by [vi 1, vi x3] [] hs rfl dX12_shared_79 (lkX12_362 _ rfl) (lt_of hnx (Nat.le_of_ble_eq_true rfl)) rfl rfl (Nat.le_of_ble_eq_true rfl) (Nat.le_of_ble_eq_true rfl) (Nat.le_of_ble_eq_true rfl) (Nat.le_of_ble_eq_true rfl) (c_Mo_by hnx 1 x3 s) (fun y14 hy14 hs => ?_)
        refine x_iconst dX12_shared_82 ?_
        refine x_icmpne hs dX12_shared_83 rfl (fun hs => ?_) (fun hs => ?_)
        · refine w_aload_n 0 dX12_shared_89 rfl rfl ?_
          refine x_getR 12 31 (b := 97) dX12_shared_90 (fxX12_64 rfl) rfl rfl (lt_of hnx (Nat.le_of_ble_eq_true rfl)) rfl ?_
          refine w_iload_n 3 dX12_shared_93 rfl rfl ?_
          refine grd_e hs (fun hg15 hs => ?_)
          refine x_iald hg15 (Nat.le_of_ble_eq_true rfl) dX12_shared_94 (Or.inl ⟨rfl, (lt_of hnx (Nat.le_of_ble_eq_true rfl))⟩) ?_
          refine w_aload_n 0 dX12_shared_95 rfl rfl ?_
          refine x_iconst dX12_shared_96 ?_
          refine w_iload_n 3 dX12_shared_97 rfl rfl ?_
          refine x_V_I M_X12_by [vi 1, vi x3] [vi (gi s 97 x3.toNat)] hs rfl dX12_shared_98 (lkX12_362 _ rfl) (lt_of hnx (Nat.le_of_ble_eq_true rfl)) rfl rfl (Nat.le_of_ble_eq_true rfl) (Nat.le_of_ble_eq_true rfl) (Nat.le_of_ble_eq_true rfl) (Nat.le_of_ble_eq_true rfl) (c_Mo_by hnx 1 x3 s) (fun y16 hy16 hs => ?_)
          refine x_iadd dX12_shared_101 ?_
          refine x_istore (fun x4_17 => [(4, vi x4_17), (0, .ref 80), (1, vi x1), (2, vi x2), (3, vi x3)]) hs dX12_shared_102 (Nat.le_of_ble_eq_true rfl) (fun _ => rfl) (fun x4_17 hs => ?_)
          refine w_iload_n 2 dX12_shared_104 rfl rfl ?_
          refine x_iconst dX12_shared_105 ?_
          refine x_icmpeq hs dX12_shared_106 rfl (fun hs => ?_) (fun hs => ?_)
          · refine w_lv (lv' := [(0, .ref 80), (3, vi x3), (4, vi x4_17)]) [1, 4, 0] rfl ?_
            exact q_Mo_shared_b118 hnx x3 x4_17 s hs hb he0
          · refine w_iload 0 dX12_shared_109 rfl ?_
            refine w_iload_n 3 dX12_shared_111 rfl rfl ?_
            refine x_icmplt hs dX12_shared_112 rfl (fun hs => ?_) (fun hs => ?_)
            · refine w_lv (lv' := [(0, .ref 80), (3, vi x3), (4, vi x4_17)]) [1, 4, 0] rfl ?_
              exact q_Mo_shared_b118 hnx x3 x4_17 s hs hb he0
            · refine w_goto dX12_shared_115 rfl ?_
              refine w_lv (lv' := [(0, .ref 80), (1, vi x1), (2, vi x2), (3, vi x3)]) [1, 2, 3, 4] rfl ?_
              exact q_Mo_shared_b123 hnx x1 x2 x3 s hs hb he0
        · refine w_goto dX12_shared_86 rfl ?_
          exact q_Mo_shared_b123 hnx x1 x2 x3 s hs hb he0
set_option maxRecDepth 100000 in
theorem q_Mo_shared_l49 {C : Cx} {nx : Nat} (hnx : 100 ≤ nx) (x1 : Int) (x2 : Int) (x3 : Int) (s : Sg) {o : Int × Sg} (hs : Mo_shared_l49 x1 x2 x3 s = some o) : ww C M_X12_shared 4 0 0 nx (QI nx o.2 o.1) (XF) nx 0 0 49 [(0, .ref 80), (1, vi x1), (2, vi x2), (3, vi x3)] [] (hp nx s) := by
  unfold Mo_shared_l49 at hs
  refine bnd_e hs (fun x1_18 hw hs => ?_)
  have hE : ww C M_X12_shared 4 0 0 nx (QI nx o.2 o.1) (XF) nx 0 0 129 [(1, vi x1_18)] [] (hp nx s) := by
    refine w_iload_n 0 dX12_shared_129 rfl rfl ?_
    cases hs
    exact x_ireturn dX12_shared_130 rfl rfl (Nat.le_of_ble_eq_true rfl) (Nat.le_of_ble_eq_true rfl) ⟨rfl, rfl⟩
  refine whl_w (P := fun σ => ww C M_X12_shared 4 0 0 nx (QI nx o.2 o.1) (XF) nx 0 0 49 [(0, .ref 80), (1, vi σ.1), (2, vi σ.2.1), (3, vi σ.2.2)] [] (hp nx s)) (E := fun ρ => ρ = x1_18) hw rfl ?_
  intro σ o' hs' hb' he'
  exact q_Mo_shared_t49 hnx σ.1 σ.2.1 σ.2.2 s hs' hb' (fun ρ e => by cases he' _ e; exact hE)
set_option maxRecDepth 100000 in
theorem q_Mo_shared_l12 {C : Cx} {nx : Nat} (hnx : 100 ≤ nx) (x1 : Int) (s : Sg) {o : Int × Sg} (hs : Mo_shared_l12 x1 s = some o) : ww C M_X12_shared 4 0 0 nx (QI nx o.2 o.1) (XF) nx 0 0 12 [(0, .ref 80), (1, vi x1)] [] (hp nx s) := by
  unfold Mo_shared_l12 at hs
  refine bnd_e hs (fun s_8 hw hs => ?_)
  have hE : ww C M_X12_shared 4 0 0 nx (QI nx o.2 o.1) (XF) nx 0 0 38 [(0, .ref 80)] [] (hp nx s_8) := by
    refine w_aload_n 0 dX12_shared_38 rfl rfl ?_
    refine x_iconst dX12_shared_39 ?_
    refine x_V_V M_X12_laysWays [vi 1] [] hs rfl dX12_shared_40 (lkX12_365 _ rfl) (lt_of hnx (Nat.le_of_ble_eq_true rfl)) rfl rfl (Nat.le_of_ble_eq_true rfl) (Nat.le_of_ble_eq_true rfl) (Nat.le_of_ble_eq_true rfl) (Nat.le_of_ble_eq_true rfl) (c_Mo_laysWays hnx 1 s_8) (fun s10 hs10 hs => ?_)
    refine x_iconst dX12_shared_43 ?_
    refine w_istore_n (lv' := [(1, vi (-1)), (0, .ref 80)]) dX12_shared_44 rfl (Nat.le_of_ble_eq_true rfl) rfl ?_
    refine x_iconst dX12_shared_45 ?_
    refine w_istore_n (lv' := [(2, vi 0), (1, vi (-1)), (0, .ref 80)]) dX12_shared_46 rfl (Nat.le_of_ble_eq_true rfl) rfl ?_
    refine x_iconst dX12_shared_47 ?_
    refine w_istore_n (lv' := [(3, vi 0), (2, vi 0), (1, vi (-1)), (0, .ref 80)]) dX12_shared_48 rfl (Nat.le_of_ble_eq_true rfl) rfl ?_
    refine w_lv (lv' := [(0, .ref 80), (1, vi (-1)), (2, vi 0), (3, vi 0)]) [3, 2, 1, 0] rfl ?_
    exact q_Mo_shared_l49 hnx (-1) 0 0 s10 hs
  refine whl_w (P := fun σ => ww C M_X12_shared 4 0 0 nx (QI nx o.2 o.1) (XF) nx 0 0 12 [(0, .ref 80), (1, vi σ.1)] [] (hp nx σ.2)) (E := fun ρ => ρ = s_8) hw rfl ?_
  intro σ o' hs' hb' he'
  exact q_Mo_shared_t12 hnx σ.1 σ.2 hs' hb' (fun ρ e => by cases he' _ e; exact hE)
set_option maxRecDepth 100000 in
theorem c_Mo_shared {C : Cx} {nx : Nat} (hnx : 100 ≤ nx)  (s : Sg) : ∀ o, Mo_shared  s = some o → mm C M_X12_shared 4 0 0 nx nx [.ref 80] (hp nx s) (QI nx o.2 o.1) (XF) := by
  intro o hs
  unfold Mo_shared at hs
  refine mm_of rfl rfl (Nat.le_of_ble_eq_true rfl) ?_
  show ww C M_X12_shared 4 0 0 nx (QI nx o.2 o.1) (XF) nx 0 0 0 [(0, .ref 80)] [] (hp nx s)
  refine w_aload_n 0 dX12_shared_0 rfl rfl ?_
  refine x_iconst dX12_shared_1 ?_
  refine x_putI 12 0 dX12_shared_2 (poX12_77 rfl) rfl rfl (lt_of hnx (Nat.le_of_ble_eq_true rfl)) ?_
  refine nam_s hs (fun s1 hs => ?_)
  refine w_aload_n 0 dX12_shared_5 rfl rfl ?_
  refine x_iconst dX12_shared_6 ?_
  refine x_V_V M_X12_laysWays [vi 0] [] hs rfl dX12_shared_7 (lkX12_365 _ rfl) (lt_of hnx (Nat.le_of_ble_eq_true rfl)) rfl rfl (Nat.le_of_ble_eq_true rfl) (Nat.le_of_ble_eq_true rfl) (Nat.le_of_ble_eq_true rfl) (Nat.le_of_ble_eq_true rfl) (c_Mo_laysWays hnx 0 s1) (fun s3 hs3 hs => ?_)
  refine x_iconst dX12_shared_10 ?_
  refine w_istore_n (lv' := [(1, vi 0), (0, .ref 80)]) dX12_shared_11 rfl (Nat.le_of_ble_eq_true rfl) rfl ?_
  refine w_lv (lv' := [(0, .ref 80), (1, vi 0)]) [1, 0] rfl ?_
  exact q_Mo_shared_l12 hnx 0 s3 hs
set_option maxRecDepth 100000 in
theorem c_Mo_weight {C : Cx} {nx : Nat} (hnx : 100 ≤ nx) (x1 : Int) (x2 : Int) (s : Sg) : ∀ o, Mo_weight x1 x2 s = some o → mm C M_X12_weight 1 0 0 nx nx [.ref 80, vi x1, vi x2] (hp nx s) (QI nx s o) (XF) := by
  intro o hs
  unfold Mo_weight at hs
  refine mm_of rfl rfl (Nat.le_of_ble_eq_true rfl) ?_
  show ww C M_X12_weight 1 0 0 nx (QI nx s o) (XF) nx 0 0 0 [(0, .ref 80), (1, vi x1), (2, vi x2)] [] (hp nx s)
  refine w_aload_n 0 dX12_weight_0 rfl rfl ?_
  refine w_iload_n 2 dX12_weight_1 rfl rfl ?_
  refine x_V_I M_X12_stone [vi x2] [] hs rfl dX12_weight_2 (lkX12_215 _ rfl) (lt_of hnx (Nat.le_of_ble_eq_true rfl)) rfl rfl (Nat.le_of_ble_eq_true rfl) (Nat.le_of_ble_eq_true rfl) (Nat.le_of_ble_eq_true rfl) (Nat.le_of_ble_eq_true rfl) (c_Mo_stone hnx x2 s) (fun y1 hy1 hs => ?_)
  refine w_iload_n 1 dX12_weight_5 rfl rfl ?_
  refine x_icmpne hs dX12_weight_6 rfl (fun hs => ?_) (fun hs => ?_)
  · refine w_aload_n 0 dX12_weight_13 rfl rfl ?_
    refine w_iload_n 2 dX12_weight_14 rfl rfl ?_
    refine x_V_I M_X12_stone [vi x2] [] hs rfl dX12_weight_15 (lkX12_215 _ rfl) (lt_of hnx (Nat.le_of_ble_eq_true rfl)) rfl rfl (Nat.le_of_ble_eq_true rfl) (Nat.le_of_ble_eq_true rfl) (Nat.le_of_ble_eq_true rfl) (Nat.le_of_ble_eq_true rfl) (c_Mo_stone hnx x2 s) (fun y2 hy2 hs => ?_)
    refine x_iconst dX12_weight_18 ?_
    refine x_icmpne hs dX12_weight_19 rfl (fun hs => ?_) (fun hs => ?_)
    · refine x_iconst dX12_weight_26 ?_
      cases hs
      exact x_ireturn dX12_weight_27 rfl rfl (Nat.le_of_ble_eq_true rfl) (Nat.le_of_ble_eq_true rfl) ⟨rfl, rfl⟩
    · refine x_iconst dX12_weight_22 ?_
      refine w_goto dX12_weight_23 rfl ?_
      cases hs
      exact x_ireturn dX12_weight_27 rfl rfl (Nat.le_of_ble_eq_true rfl) (Nat.le_of_ble_eq_true rfl) ⟨rfl, rfl⟩
  · refine x_iconst dX12_weight_9 ?_
    refine w_goto dX12_weight_10 rfl ?_
    cases hs
    exact x_ireturn dX12_weight_27 rfl rfl (Nat.le_of_ble_eq_true rfl) (Nat.le_of_ble_eq_true rfl) ⟨rfl, rfl⟩
set_option maxRecDepth 100000 in
theorem q_Mo_sweepsCell_b92 {C : Cx} {nx : Nat} (hnx : 100 ≤ nx) {Qr : Option Value → Hp → Prop} {Qx : String → Hp → Prop}  (x1 : Int) (x2 : Int) (x4 : Int) (x5 : Int) (x6 : Int) (s : Sg) {o : ((Int × Int × Int) ⊕ (Int × Int))} (hs : Mo_sweepsCell_b92 x1 x2 x4 x5 x6 s = some o) (hb : ∀ σ : Int × Int × Int, o = .inl σ → ww C M_X12_sweepsCell 2 0 0 nx (Qr) (Qx) nx 0 0 35 [(0, .ref 80), (1, vi x1), (2, vi x2), (4, vi σ.1), (5, vi σ.2.1), (6, vi σ.2.2)] [] (hp nx s)) (he0 : ∀ ρ : Int × Int, o = .inr ρ → ww C M_X12_sweepsCell 2 0 0 nx (Qr) (Qx) nx 0 0 98 [(0, .ref 80), (2, vi x2), (4, vi ρ.1), (5, vi ρ.2)] [] (hp nx s)) : ww C M_X12_sweepsCell 2 0 0 nx (Qr) (Qx) nx 0 0 92 [(0, .ref 80), (1, vi x1), (2, vi x2), (4, vi x4), (5, vi x5), (6, vi x6)] [] (hp nx s) := by
  unfold Mo_sweepsCell_b92 at hs
  refine x_iinc (lv' := [(6, vi (x6 + 1)), (0, .ref 80), (1, vi x1), (2, vi x2), (4, vi x4), (5, vi x5)]) 5 dX12_sweepsCell_92 rfl (Nat.le_of_ble_eq_true rfl) rfl ?_
  refine w_goto dX12_sweepsCell_95 rfl ?_
  refine w_lv (lv' := [(0, .ref 80), (1, vi x1), (2, vi x2), (4, vi x4), (5, vi x5), (6, vi (x6 + 1))]) [1, 2, 3, 4, 5, 0] rfl ?_
  cases hs
  exact hb _ rfl
set_option maxRecDepth 100000 in
theorem q_Mo_sweepsCell_t35 {C : Cx} {nx : Nat} (hnx : 100 ≤ nx) {Qr : Option Value → Hp → Prop} {Qx : String → Hp → Prop}  (x1 : Int) (x2 : Int) (x4 : Int) (x5 : Int) (x6 : Int) (s : Sg) {o : ((Int × Int × Int) ⊕ (Int × Int))} (hs : Mo_sweepsCell_t35 x1 x2 x4 x5 x6 s = some o) (hb : ∀ σ : Int × Int × Int, o = .inl σ → ww C M_X12_sweepsCell 2 0 0 nx (Qr) (Qx) nx 0 0 35 [(0, .ref 80), (1, vi x1), (2, vi x2), (4, vi σ.1), (5, vi σ.2.1), (6, vi σ.2.2)] [] (hp nx s)) (he0 : ∀ ρ : Int × Int, o = .inr ρ → ww C M_X12_sweepsCell 2 0 0 nx (Qr) (Qx) nx 0 0 98 [(0, .ref 80), (2, vi x2), (4, vi ρ.1), (5, vi ρ.2)] [] (hp nx s)) : ww C M_X12_sweepsCell 2 0 0 nx (Qr) (Qx) nx 0 0 35 [(0, .ref 80), (1, vi x1), (2, vi x2), (4, vi x4), (5, vi x5), (6, vi x6)] [] (hp nx s) := by
  unfold Mo_sweepsCell_t35 at hs
  refine w_iload 5 dX12_sweepsCell_35 rfl ?_
  refine x_bipush dX12_sweepsCell_37 (by decide) ?_
  refine x_icmpge hs dX12_sweepsCell_39 rfl (fun hs => ?_) (fun hs => ?_)
  · refine w_lv (lv' := [(0, .ref 80), (2, vi x2), (4, vi x4), (5, vi x5)]) [0, 2, 3, 4] rfl ?_
    cases hs
    exact he0 _ rfl
  · refine w_aload_n 0 dX12_sweepsCell_42 rfl rfl ?_
    refine w_iload_n 2 dX12_sweepsCell_43 rfl rfl ?_
    refine w_iload 5 dX12_sweepsCell_44 rfl ?_
    refine x_V_I M_X12_round [vi x2, vi x6] [] hs rfl dX12_sweepsCell_46 (lkX12_218 _ rfl) (lt_of hnx (Nat.le_of_ble_eq_true rfl)) rfl rfl (Nat.le_of_ble_eq_true rfl) (Nat.le_of_ble_eq_true rfl) (Nat.le_of_ble_eq_true rfl) (Nat.le_of_ble_eq_true rfl) (c_Mo_round hnx x2 x6 s) (fun y3 hy3 hs => ?_)
    refine w_istore (lv' := [(7, vi y3), (0, .ref 80), (1, vi x1), (2, vi x2), (4, vi x4), (5, vi x5), (6, vi x6)]) dX12_sweepsCell_49 (Nat.le_of_ble_eq_true rfl) rfl ?_
    refine w_iload 0 dX12_sweepsCell_51 rfl ?_
    refine x_iconst dX12_sweepsCell_53 ?_
    refine x_icmpne hs dX12_sweepsCell_54 rfl (fun hs => ?_) (fun hs => ?_)
    · refine w_iload 4 dX12_sweepsCell_60 rfl ?_
      refine w_aload_n 1 dX12_sweepsCell_62 rfl rfl ?_
      refine w_iload_n 2 dX12_sweepsCell_63 rfl rfl ?_
      refine w_iload 0 dX12_sweepsCell_64 rfl ?_
      refine x_V_I M_X12_weight [vi x1, vi y3] [vi x4] hs rfl dX12_sweepsCell_66 (lkX12_372 _ rfl) (lt_of hnx (Nat.le_of_ble_eq_true rfl)) rfl rfl (Nat.le_of_ble_eq_true rfl) (Nat.le_of_ble_eq_true rfl) (Nat.le_of_ble_eq_true rfl) (Nat.le_of_ble_eq_true rfl) (c_Mo_weight hnx x1 y3 s) (fun y4 hy4 hs => ?_)
      refine w_aload_n 1 dX12_sweepsCell_69 rfl rfl ?_
      refine x_getR 12 32 (b := 98) dX12_sweepsCell_70 (fxX12_67 rfl) rfl rfl (lt_of hnx (Nat.le_of_ble_eq_true rfl)) rfl ?_
      refine w_iload 0 dX12_sweepsCell_73 rfl ?_
      refine grd_e hs (fun hg5 hs => ?_)
      refine x_iald hg5 (Nat.le_of_ble_eq_true rfl) dX12_sweepsCell_75 (Or.inl ⟨rfl, (lt_of hnx (Nat.le_of_ble_eq_true rfl))⟩) ?_
      refine x_imul dX12_sweepsCell_76 ?_
      refine x_iadd dX12_sweepsCell_77 ?_
      refine x_istore (fun x4_6 => [(4, vi x4_6), (7, vi y3), (0, .ref 80), (1, vi x1), (2, vi x2), (5, vi x5), (6, vi x6)]) hs dX12_sweepsCell_78 (Nat.le_of_ble_eq_true rfl) (fun _ => rfl) (fun x4_6 hs => ?_)
      refine w_iload 5 dX12_sweepsCell_80 rfl ?_
      refine w_aload_n 2 dX12_sweepsCell_82 rfl rfl ?_
      refine w_iload_n 3 dX12_sweepsCell_83 rfl rfl ?_
      refine w_iload 1 dX12_sweepsCell_84 rfl ?_
      refine x_V_I M_X12_weight [vi x1, vi y3] [vi x5] hs rfl dX12_sweepsCell_86 (lkX12_372 _ rfl) (lt_of hnx (Nat.le_of_ble_eq_true rfl)) rfl rfl (Nat.le_of_ble_eq_true rfl) (Nat.le_of_ble_eq_true rfl) (Nat.le_of_ble_eq_true rfl) (Nat.le_of_ble_eq_true rfl) (c_Mo_weight hnx x1 y3 s) (fun y7 hy7 hs => ?_)
      refine x_iadd dX12_sweepsCell_89 ?_
      refine x_istore (fun x5_8 => [(5, vi x5_8), (4, vi x4_6), (7, vi y3), (0, .ref 80), (1, vi x1), (2, vi x2), (6, vi x6)]) hs dX12_sweepsCell_90 (Nat.le_of_ble_eq_true rfl) (fun _ => rfl) (fun x5_8 hs => ?_)
      refine w_lv (lv' := [(0, .ref 80), (1, vi x1), (2, vi x2), (4, vi x4_6), (5, vi x5_8), (6, vi x6)]) [3, 4, 5, 1, 0, 6] rfl ?_
      exact q_Mo_sweepsCell_b92 hnx x1 x2 x4_6 x5_8 x6 s hs hb he0
    · refine w_goto dX12_sweepsCell_57 rfl ?_
      refine w_lv (lv' := [(0, .ref 80), (1, vi x1), (2, vi x2), (4, vi x4), (5, vi x5), (6, vi x6)]) [1, 2, 3, 4, 5, 6] rfl ?_
      exact q_Mo_sweepsCell_b92 hnx x1 x2 x4 x5 x6 s hs hb he0
set_option maxRecDepth 100000 in
theorem q_Mo_sweepsCell_l35 {C : Cx} {nx : Nat} (hnx : 100 ≤ nx) (x1 : Int) (x2 : Int) (x4 : Int) (x5 : Int) (x6 : Int) (s : Sg) {o : Sg} (hs : Mo_sweepsCell_l35 x1 x2 x4 x5 x6 s = some o) : ww C M_X12_sweepsCell 2 0 0 nx (QV nx o) (XF) nx 0 0 35 [(0, .ref 80), (1, vi x1), (2, vi x2), (4, vi x4), (5, vi x5), (6, vi x6)] [] (hp nx s) := by
  unfold Mo_sweepsCell_l35 at hs
  refine bnd_e hs (fun ρ hw hs => ?_)
  obtain ⟨x4_9, x5_10⟩ := ρ
  have hE : ww C M_X12_sweepsCell 2 0 0 nx (QV nx o) (XF) nx 0 0 98 [(0, .ref 80), (2, vi x2), (4, vi x4_9), (5, vi x5_10)] [] (hp nx s) := by
    refine w_iload 3 dX12_sweepsCell_98 rfl ?_
    refine x_ifle hs dX12_sweepsCell_100 rfl (fun hs => ?_) (fun hs => ?_)
    · cases hs
      exact w_return rfl dX12_sweepsCell_114 rfl (Nat.le_of_ble_eq_true rfl) (Nat.le_of_ble_eq_true rfl) ⟨rfl, rfl⟩
    · refine w_aload_n 0 dX12_sweepsCell_103 rfl rfl ?_
      refine x_getR 12 32 (b := 98) dX12_sweepsCell_104 (fxX12_67 rfl) rfl rfl (lt_of hnx (Nat.le_of_ble_eq_true rfl)) rfl ?_
      refine w_iload_n 1 dX12_sweepsCell_107 rfl rfl ?_
      refine w_iload 2 dX12_sweepsCell_108 rfl ?_
      refine w_iload 3 dX12_sweepsCell_110 rfl ?_
      refine grd_e hs (fun hg11 hs => ?_)
      refine x_idiv dX12_sweepsCell_112 hg11 ?_
      refine grd_e hs (fun hg12 hs => ?_)
      refine x_iast hg12 (Nat.le_of_ble_eq_true rfl) dX12_sweepsCell_113 rfl (lt_of hnx (Nat.le_of_ble_eq_true rfl)) ?_
      refine nam_s hs (fun s13 hs => ?_)
      cases hs
      exact w_return rfl dX12_sweepsCell_114 rfl (Nat.le_of_ble_eq_true rfl) (Nat.le_of_ble_eq_true rfl) ⟨rfl, rfl⟩
  refine whl_w (P := fun σ => ww C M_X12_sweepsCell 2 0 0 nx (QV nx o) (XF) nx 0 0 35 [(0, .ref 80), (1, vi x1), (2, vi x2), (4, vi σ.1), (5, vi σ.2.1), (6, vi σ.2.2)] [] (hp nx s)) (E := fun ρ => ρ = (x4_9, x5_10)) hw rfl ?_
  intro σ o' hs' hb' he'
  exact q_Mo_sweepsCell_t35 hnx x1 x2 σ.1 σ.2.1 σ.2.2 s hs' hb' (fun ρ e => by cases he' _ e; exact hE)
set_option maxRecDepth 100000 in
theorem q_Mo_sweepsCell_b21 {C : Cx} {nx : Nat} (hnx : 100 ≤ nx) (x1 : Int) (x2 : Int) (x3 : Int) (t0 : Int) (s : Sg) {o : Sg} (hs : Mo_sweepsCell_b21 x1 x2 x3 t0 s = some o) : ww C M_X12_sweepsCell 2 0 0 nx (QV nx o) (XF) nx 0 0 21 [(0, .ref 80), (1, vi x1), (2, vi x2), (3, vi x3)] [vi t0] (hp nx s) := by
  unfold Mo_sweepsCell_b21 at hs
  refine w_istore (lv' := [(4, vi t0), (0, .ref 80), (1, vi x1), (2, vi x2), (3, vi x3)]) dX12_sweepsCell_21 (Nat.le_of_ble_eq_true rfl) rfl ?_
  refine w_iload_n 4 dX12_sweepsCell_23 rfl rfl ?_
  refine x_iconst dX12_sweepsCell_24 ?_
  refine x_iand dX12_sweepsCell_25 ?_
  refine w_iload_n 4 dX12_sweepsCell_26 rfl rfl ?_
  refine x_iconst dX12_sweepsCell_27 ?_
  refine x_ishr dX12_sweepsCell_28 ?_
  refine x_iadd dX12_sweepsCell_29 ?_
  refine x_istore (fun x5_2 => [(5, vi x5_2), (4, vi t0), (0, .ref 80), (1, vi x1), (2, vi x2), (3, vi x3)]) hs dX12_sweepsCell_30 (Nat.le_of_ble_eq_true rfl) (fun _ => rfl) (fun x5_2 hs => ?_)
  refine x_iconst dX12_sweepsCell_32 ?_
  refine w_istore (lv' := [(6, vi 0), (5, vi x5_2), (4, vi t0), (0, .ref 80), (1, vi x1), (2, vi x2), (3, vi x3)]) dX12_sweepsCell_33 (Nat.le_of_ble_eq_true rfl) rfl ?_
  refine w_lv (lv' := [(0, .ref 80), (1, vi x1), (2, vi x2), (4, vi t0), (5, vi x5_2), (6, vi 0)]) [3, 4, 5, 2, 1, 0] rfl ?_
  exact q_Mo_sweepsCell_l35 hnx x1 x2 t0 x5_2 0 s hs
set_option maxRecDepth 100000 in
theorem c_Mo_sweepsCell {C : Cx} {nx : Nat} (hnx : 100 ≤ nx) (x1 : Int) (x2 : Int) (s : Sg) : ∀ o, Mo_sweepsCell x1 x2 s = some o → mm C M_X12_sweepsCell 2 0 0 nx nx [.ref 80, vi x1, vi x2] (hp nx s) (QV nx o) (XF) := by
  intro o hs
  unfold Mo_sweepsCell at hs
  refine mm_of rfl rfl (Nat.le_of_ble_eq_true rfl) ?_
  show ww C M_X12_sweepsCell 2 0 0 nx (QV nx o) (XF) nx 0 0 0 [(0, .ref 80), (1, vi x1), (2, vi x2)] [] (hp nx s)
  refine w_aload_n 0 dX12_sweepsCell_0 rfl rfl ?_
  refine w_iload_n 1 dX12_sweepsCell_1 rfl rfl ?_
  refine w_iload_n 2 dX12_sweepsCell_2 rfl rfl ?_
  refine x_V_I M_X12_edges [vi x1, vi x2] [] hs rfl dX12_sweepsCell_3 (lkX12_239 _ rfl) (lt_of hnx (Nat.le_of_ble_eq_true rfl)) rfl rfl (Nat.le_of_ble_eq_true rfl) (Nat.le_of_ble_eq_true rfl) (Nat.le_of_ble_eq_true rfl) (Nat.le_of_ble_eq_true rfl) (c_Mo_edges hnx x1 x2 s) (fun y1 hy1 hs => ?_)
  refine w_istore_n (lv' := [(3, vi y1), (0, .ref 80), (1, vi x1), (2, vi x2)]) dX12_sweepsCell_6 rfl (Nat.le_of_ble_eq_true rfl) rfl ?_
  refine w_iload_n 0 dX12_sweepsCell_7 rfl rfl ?_
  refine x_iconst dX12_sweepsCell_8 ?_
  refine x_iand dX12_sweepsCell_9 ?_
  refine x_iconst dX12_sweepsCell_10 ?_
  refine x_icmpne hs dX12_sweepsCell_11 rfl (fun hs => ?_) (fun hs => ?_)
  · refine x_iconst dX12_sweepsCell_20 ?_
    refine w_lv (lv' := [(0, .ref 80), (1, vi x1), (2, vi x2), (3, vi y1)]) [1, 2, 3, 0] rfl ?_
    exact q_Mo_sweepsCell_b21 hnx x1 x2 y1 0 s hs
  · refine x_ldcw 1000000 dX12_sweepsCell_14 (csX12_371 rfl) ?_
    refine w_goto dX12_sweepsCell_17 rfl ?_
    refine w_lv (lv' := [(0, .ref 80), (1, vi x1), (2, vi x2), (3, vi y1)]) [1, 2, 3, 0] rfl ?_
    exact q_Mo_sweepsCell_b21 hnx x1 x2 y1 1000000 s hs
set_option maxRecDepth 100000 in
theorem q_Mo_sweeps_t2 {C : Cx} {nx : Nat} (hnx : 100 ≤ nx) {Qr : Option Value → Hp → Prop} {Qx : String → Hp → Prop}  (x1 : Int) (x2 : Int) (x3 : Int) (s : Sg) {o : ((Int × Sg) ⊕ (Sg))} (hs : Mo_sweeps_t2 x1 x2 x3 s = some o) (hb : ∀ σ : Int × Sg, o = .inl σ → ww C M_X12_sweeps 3 0 0 nx (Qr) (Qx) nx 0 0 2 [(0, .ref 80), (1, vi x1), (2, vi x2), (3, vi σ.1)] [] (hp nx σ.2)) (he0 : ∀ ρ : Sg, o = .inr ρ → ww C M_X12_sweeps 3 0 0 nx (Qr) (Qx) nx 0 0 25 [(0, .ref 80), (1, vi x1), (2, vi x2)] [] (hp nx ρ)) : ww C M_X12_sweeps 3 0 0 nx (Qr) (Qx) nx 0 0 2 [(0, .ref 80), (1, vi x1), (2, vi x2), (3, vi x3)] [] (hp nx s) := by
  unfold Mo_sweeps_t2 at hs
  refine w_iload_n 3 dX12_sweeps_2 rfl rfl ?_
  refine w_aload_n 0 dX12_sweeps_3 rfl rfl ?_
  refine x_V_I M_X12_cells [] [vi x3] hs rfl dX12_sweeps_4 (lkX12_212 _ rfl) (lt_of hnx (Nat.le_of_ble_eq_true rfl)) rfl rfl (Nat.le_of_ble_eq_true rfl) (Nat.le_of_ble_eq_true rfl) (Nat.le_of_ble_eq_true rfl) (Nat.le_of_ble_eq_true rfl) (c_Mo_cells hnx s) (fun y1 hy1 hs => ?_)
  refine x_icmpge hs dX12_sweeps_7 rfl (fun hs => ?_) (fun hs => ?_)
  · refine w_lv (lv' := [(0, .ref 80), (1, vi x1), (2, vi x2)]) [0, 1, 2] rfl ?_
    cases hs
    exact he0 _ rfl
  · refine w_aload_n 0 dX12_sweeps_10 rfl rfl ?_
    refine x_getR 12 32 (b := 98) dX12_sweeps_11 (fxX12_67 rfl) rfl rfl (lt_of hnx (Nat.le_of_ble_eq_true rfl)) rfl ?_
    refine w_iload_n 3 dX12_sweeps_14 rfl rfl ?_
    refine x_ldcw 500000 dX12_sweeps_15 (csX12_375 rfl) ?_
    refine grd_e hs (fun hg2 hs => ?_)
    refine x_iast hg2 (Nat.le_of_ble_eq_true rfl) dX12_sweeps_18 rfl (lt_of hnx (Nat.le_of_ble_eq_true rfl)) ?_
    refine nam_s hs (fun s3 hs => ?_)
    refine x_iinc (lv' := [(3, vi (x3 + 1)), (0, .ref 80), (1, vi x1), (2, vi x2)]) 3 dX12_sweeps_19 rfl (Nat.le_of_ble_eq_true rfl) rfl ?_
    refine w_goto dX12_sweeps_22 rfl ?_
    refine w_lv (lv' := [(0, .ref 80), (1, vi x1), (2, vi x2), (3, vi (x3 + 1))]) [1, 2, 3, 0] rfl ?_
    cases hs
    exact hb _ rfl
set_option maxRecDepth 100000 in
theorem q_Mo_sweeps_b61 {C : Cx} {nx : Nat} (hnx : 100 ≤ nx) {Qr : Option Value → Hp → Prop} {Qx : String → Hp → Prop}  (x1 : Int) (x2 : Int) (x3 : Int) (x4 : Int) (s : Sg) {o : ((Int × Sg) ⊕ (Sg))} (hs : Mo_sweeps_b61 x1 x2 x3 x4 s = some o) (hb : ∀ σ : Int × Sg, o = .inl σ → ww C M_X12_sweeps 3 0 0 nx (Qr) (Qx) nx 0 0 35 [(0, .ref 80), (1, vi x1), (2, vi x2), (3, vi x3), (4, vi σ.1)] [] (hp nx σ.2)) (he0 : ∀ ρ : Sg, o = .inr ρ → ww C M_X12_sweeps 3 0 0 nx (Qr) (Qx) nx 0 0 67 [(0, .ref 80), (1, vi x1), (2, vi x2), (3, vi x3)] [] (hp nx ρ)) : ww C M_X12_sweeps 3 0 0 nx (Qr) (Qx) nx 0 0 61 [(0, .ref 80), (1, vi x1), (2, vi x2), (3, vi x3), (4, vi x4)] [] (hp nx s) := by
  unfold Mo_sweeps_b61 at hs
  refine x_iinc (lv' := [(4, vi (x4 + 1)), (0, .ref 80), (1, vi x1), (2, vi x2), (3, vi x3)]) 4 dX12_sweeps_61 rfl (Nat.le_of_ble_eq_true rfl) rfl ?_
  refine w_goto dX12_sweeps_64 rfl ?_
  refine w_lv (lv' := [(0, .ref 80), (1, vi x1), (2, vi x2), (3, vi x3), (4, vi (x4 + 1))]) [1, 2, 3, 4, 0] rfl ?_
  cases hs
  exact hb _ rfl
set_option maxRecDepth 100000 in
theorem q_Mo_sweeps_t35 {C : Cx} {nx : Nat} (hnx : 100 ≤ nx) {Qr : Option Value → Hp → Prop} {Qx : String → Hp → Prop}  (x1 : Int) (x2 : Int) (x3 : Int) (x4 : Int) (s : Sg) {o : ((Int × Sg) ⊕ (Sg))} (hs : Mo_sweeps_t35 x1 x2 x3 x4 s = some o) (hb : ∀ σ : Int × Sg, o = .inl σ → ww C M_X12_sweeps 3 0 0 nx (Qr) (Qx) nx 0 0 35 [(0, .ref 80), (1, vi x1), (2, vi x2), (3, vi x3), (4, vi σ.1)] [] (hp nx σ.2)) (he0 : ∀ ρ : Sg, o = .inr ρ → ww C M_X12_sweeps 3 0 0 nx (Qr) (Qx) nx 0 0 67 [(0, .ref 80), (1, vi x1), (2, vi x2), (3, vi x3)] [] (hp nx ρ)) : ww C M_X12_sweeps 3 0 0 nx (Qr) (Qx) nx 0 0 35 [(0, .ref 80), (1, vi x1), (2, vi x2), (3, vi x3), (4, vi x4)] [] (hp nx s) := by
  unfold Mo_sweeps_t35 at hs
  refine w_iload 4 dX12_sweeps_35 rfl ?_
  refine w_aload_n 0 dX12_sweeps_37 rfl rfl ?_
  refine x_V_I M_X12_cells [] [vi x4] hs rfl dX12_sweeps_38 (lkX12_212 _ rfl) (lt_of hnx (Nat.le_of_ble_eq_true rfl)) rfl rfl (Nat.le_of_ble_eq_true rfl) (Nat.le_of_ble_eq_true rfl) (Nat.le_of_ble_eq_true rfl) (Nat.le_of_ble_eq_true rfl) (c_Mo_cells hnx s) (fun y5 hy5 hs => ?_)
  refine x_icmpge hs dX12_sweeps_41 rfl (fun hs => ?_) (fun hs => ?_)
  · refine w_lv (lv' := [(0, .ref 80), (1, vi x1), (2, vi x2), (3, vi x3)]) [0, 1, 2, 3] rfl ?_
    cases hs
    exact he0 _ rfl
  · refine w_aload_n 0 dX12_sweeps_44 rfl rfl ?_
    refine w_iload_n 1 dX12_sweeps_45 rfl rfl ?_
    refine w_iload 4 dX12_sweeps_46 rfl ?_
    refine x_V_I M_X12_weight [vi x1, vi x4] [] hs rfl dX12_sweeps_48 (lkX12_372 _ rfl) (lt_of hnx (Nat.le_of_ble_eq_true rfl)) rfl rfl (Nat.le_of_ble_eq_true rfl) (Nat.le_of_ble_eq_true rfl) (Nat.le_of_ble_eq_true rfl) (Nat.le_of_ble_eq_true rfl) (c_Mo_weight hnx x1 x4 s) (fun y6 hy6 hs => ?_)
    refine x_ifle hs dX12_sweeps_51 rfl (fun hs => ?_) (fun hs => ?_)
    · exact q_Mo_sweeps_b61 hnx x1 x2 x3 x4 s hs hb he0
    · refine w_aload_n 0 dX12_sweeps_54 rfl rfl ?_
      refine w_iload_n 1 dX12_sweeps_55 rfl rfl ?_
      refine w_iload 4 dX12_sweeps_56 rfl ?_
      refine x_V_V M_X12_sweepsCell [vi x1, vi x4] [] hs rfl dX12_sweeps_58 (lkX12_376 _ rfl) (lt_of hnx (Nat.le_of_ble_eq_true rfl)) rfl rfl (Nat.le_of_ble_eq_true rfl) (Nat.le_of_ble_eq_true rfl) (Nat.le_of_ble_eq_true rfl) (Nat.le_of_ble_eq_true rfl) (c_Mo_sweepsCell hnx x1 x4 s) (fun s8 hs8 hs => ?_)
      exact q_Mo_sweeps_b61 hnx x1 x2 x3 x4 s8 hs hb he0
set_option maxRecDepth 100000 in
theorem q_Mo_sweeps_l35 {C : Cx} {nx : Nat} (hnx : 100 ≤ nx) {Qr : Option Value → Hp → Prop} {Qx : String → Hp → Prop}  (x1 : Int) (x2 : Int) (x3 : Int) (x4 : Int) (s : Sg) {o : ((Int × Sg) ⊕ (Sg))} (hs : Mo_sweeps_l35 x1 x2 x3 x4 s = some o) (hb : ∀ σ : Int × Sg, o = .inl σ → ww C M_X12_sweeps 3 0 0 nx (Qr) (Qx) nx 0 0 27 [(0, .ref 80), (1, vi x1), (2, vi x2), (3, vi σ.1)] [] (hp nx σ.2)) (he0 : ∀ ρ : Sg, o = .inr ρ → ww C M_X12_sweeps 3 0 0 nx (Qr) (Qx) nx 0 0 73 [] [] (hp nx ρ)) : ww C M_X12_sweeps 3 0 0 nx (Qr) (Qx) nx 0 0 35 [(0, .ref 80), (1, vi x1), (2, vi x2), (3, vi x3), (4, vi x4)] [] (hp nx s) := by
  unfold Mo_sweeps_l35 at hs
  refine bnd_e hs (fun s_9 hw hs => ?_)
  have hE : ww C M_X12_sweeps 3 0 0 nx (Qr) (Qx) nx 0 0 67 [(0, .ref 80), (1, vi x1), (2, vi x2), (3, vi x3)] [] (hp nx s_9) := by
    refine x_iinc (lv' := [(3, vi (x3 + 1)), (0, .ref 80), (1, vi x1), (2, vi x2)]) 3 dX12_sweeps_67 rfl (Nat.le_of_ble_eq_true rfl) rfl ?_
    refine w_goto dX12_sweeps_70 rfl ?_
    refine w_lv (lv' := [(0, .ref 80), (1, vi x1), (2, vi x2), (3, vi (x3 + 1))]) [1, 2, 3, 0] rfl ?_
    cases hs
    exact hb _ rfl
  refine whl_w (P := fun σ => ww C M_X12_sweeps 3 0 0 nx (Qr) (Qx) nx 0 0 35 [(0, .ref 80), (1, vi x1), (2, vi x2), (3, vi x3), (4, vi σ.1)] [] (hp nx σ.2)) (E := fun ρ => ρ = s_9) hw rfl ?_
  intro σ o' hs' hb' he'
  exact q_Mo_sweeps_t35 hnx x1 x2 x3 σ.1 σ.2 hs' hb' (fun ρ e => by cases he' _ e; exact hE)
set_option maxRecDepth 100000 in
theorem q_Mo_sweeps_t27 {C : Cx} {nx : Nat} (hnx : 100 ≤ nx) {Qr : Option Value → Hp → Prop} {Qx : String → Hp → Prop}  (x1 : Int) (x2 : Int) (x3 : Int) (s : Sg) {o : ((Int × Sg) ⊕ (Sg))} (hs : Mo_sweeps_t27 x1 x2 x3 s = some o) (hb : ∀ σ : Int × Sg, o = .inl σ → ww C M_X12_sweeps 3 0 0 nx (Qr) (Qx) nx 0 0 27 [(0, .ref 80), (1, vi x1), (2, vi x2), (3, vi σ.1)] [] (hp nx σ.2)) (he0 : ∀ ρ : Sg, o = .inr ρ → ww C M_X12_sweeps 3 0 0 nx (Qr) (Qx) nx 0 0 73 [] [] (hp nx ρ)) : ww C M_X12_sweeps 3 0 0 nx (Qr) (Qx) nx 0 0 27 [(0, .ref 80), (1, vi x1), (2, vi x2), (3, vi x3)] [] (hp nx s) := by
  unfold Mo_sweeps_t27 at hs
  refine w_iload_n 3 dX12_sweeps_27 rfl rfl ?_
  refine w_iload_n 2 dX12_sweeps_28 rfl rfl ?_
  refine x_icmpge hs dX12_sweeps_29 rfl (fun hs => ?_) (fun hs => ?_)
  · refine w_lv (lv' := []) [] rfl ?_
    cases hs
    exact he0 _ rfl
  · refine x_iconst dX12_sweeps_32 ?_
    refine w_istore (lv' := [(4, vi 0), (0, .ref 80), (1, vi x1), (2, vi x2), (3, vi x3)]) dX12_sweeps_33 (Nat.le_of_ble_eq_true rfl) rfl ?_
    refine w_lv (lv' := [(0, .ref 80), (1, vi x1), (2, vi x2), (3, vi x3), (4, vi 0)]) [1, 2, 3, 4, 0] rfl ?_
    exact q_Mo_sweeps_l35 hnx x1 x2 x3 0 s hs hb he0
set_option maxRecDepth 100000 in
theorem q_Mo_sweeps_l27 {C : Cx} {nx : Nat} (hnx : 100 ≤ nx) (x1 : Int) (x2 : Int) (x3 : Int) (s : Sg) {o : Sg} (hs : Mo_sweeps_l27 x1 x2 x3 s = some o) : ww C M_X12_sweeps 3 0 0 nx (QV nx o) (XF) nx 0 0 27 [(0, .ref 80), (1, vi x1), (2, vi x2), (3, vi x3)] [] (hp nx s) := by
  unfold Mo_sweeps_l27 at hs
  refine bnd_e hs (fun s_10 hw hs => ?_)
  have hE : ww C M_X12_sweeps 3 0 0 nx (QV nx o) (XF) nx 0 0 73 [] [] (hp nx s_10) := by
    cases hs
    exact w_return rfl dX12_sweeps_73 rfl (Nat.le_of_ble_eq_true rfl) (Nat.le_of_ble_eq_true rfl) ⟨rfl, rfl⟩
  refine whl_w (P := fun σ => ww C M_X12_sweeps 3 0 0 nx (QV nx o) (XF) nx 0 0 27 [(0, .ref 80), (1, vi x1), (2, vi x2), (3, vi σ.1)] [] (hp nx σ.2)) (E := fun ρ => ρ = s_10) hw rfl ?_
  intro σ o' hs' hb' he'
  exact q_Mo_sweeps_t27 hnx x1 x2 σ.1 σ.2 hs' hb' (fun ρ e => by cases he' _ e; exact hE)
set_option maxRecDepth 100000 in
theorem q_Mo_sweeps_l2 {C : Cx} {nx : Nat} (hnx : 100 ≤ nx) (x1 : Int) (x2 : Int) (x3 : Int) (s : Sg) {o : Sg} (hs : Mo_sweeps_l2 x1 x2 x3 s = some o) : ww C M_X12_sweeps 3 0 0 nx (QV nx o) (XF) nx 0 0 2 [(0, .ref 80), (1, vi x1), (2, vi x2), (3, vi x3)] [] (hp nx s) := by
  unfold Mo_sweeps_l2 at hs
  refine bnd_e hs (fun s_4 hw hs => ?_)
  have hE : ww C M_X12_sweeps 3 0 0 nx (QV nx o) (XF) nx 0 0 25 [(0, .ref 80), (1, vi x1), (2, vi x2)] [] (hp nx s_4) := by
    refine x_iconst dX12_sweeps_25 ?_
    refine w_istore_n (lv' := [(3, vi 0), (0, .ref 80), (1, vi x1), (2, vi x2)]) dX12_sweeps_26 rfl (Nat.le_of_ble_eq_true rfl) rfl ?_
    refine w_lv (lv' := [(0, .ref 80), (1, vi x1), (2, vi x2), (3, vi 0)]) [1, 2, 3, 0] rfl ?_
    exact q_Mo_sweeps_l27 hnx x1 x2 0 s_4 hs
  refine whl_w (P := fun σ => ww C M_X12_sweeps 3 0 0 nx (QV nx o) (XF) nx 0 0 2 [(0, .ref 80), (1, vi x1), (2, vi x2), (3, vi σ.1)] [] (hp nx σ.2)) (E := fun ρ => ρ = s_4) hw rfl ?_
  intro σ o' hs' hb' he'
  exact q_Mo_sweeps_t2 hnx x1 x2 σ.1 σ.2 hs' hb' (fun ρ e => by cases he' _ e; exact hE)
set_option maxRecDepth 100000 in
theorem c_Mo_sweeps {C : Cx} {nx : Nat} (hnx : 100 ≤ nx) (x1 : Int) (x2 : Int) (s : Sg) : ∀ o, Mo_sweeps x1 x2 s = some o → mm C M_X12_sweeps 3 0 0 nx nx [.ref 80, vi x1, vi x2] (hp nx s) (QV nx o) (XF) := by
  intro o hs
  unfold Mo_sweeps at hs
  refine mm_of rfl rfl (Nat.le_of_ble_eq_true rfl) ?_
  show ww C M_X12_sweeps 3 0 0 nx (QV nx o) (XF) nx 0 0 0 [(0, .ref 80), (1, vi x1), (2, vi x2)] [] (hp nx s)
  refine x_iconst dX12_sweeps_0 ?_
  refine w_istore_n (lv' := [(3, vi 0), (0, .ref 80), (1, vi x1), (2, vi x2)]) dX12_sweeps_1 rfl (Nat.le_of_ble_eq_true rfl) rfl ?_
  refine w_lv (lv' := [(0, .ref 80), (1, vi x1), (2, vi x2), (3, vi 0)]) [1, 2, 3, 0] rfl ?_
  exact q_Mo_sweeps_l2 hnx x1 x2 0 s hs

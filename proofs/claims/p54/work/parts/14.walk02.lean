set_option maxRecDepth 100000 in
theorem q_Bl_find_t7 {C : Cx} {nx : Nat} (hnx : 80 ≤ nx) {Qr : Option Value → Hp → Prop} {Qx : String → Hp → Prop}  (r1 : Nat) (h_r1 : isRow nx r1) (x2 : Int) (x3 : Int) (s : Sg) {o : ((Int × Sg) ⊕ (Sg))} (hs : Bl_find_t7 r1 x2 x3 s = some o) (hb : ∀ σ : Int × Sg, o = .inl σ → ww C M_X0_find 3 0 0 nx (Qr) (Qx) nx 0 0 7 [(0, .ref 56), (1, .ref r1), (2, vi x2), (3, vi σ.1)] [] (hp nx σ.2)) (he0 : ∀ ρ : Sg, o = .inr ρ → ww C M_X0_find 3 0 0 nx (Qr) (Qx) nx 0 0 28 [(0, .ref 56), (1, .ref r1), (2, vi x2)] [] (hp nx ρ)) : ww C M_X0_find 3 0 0 nx (Qr) (Qx) nx 0 0 7 [(0, .ref 56), (1, .ref r1), (2, vi x2), (3, vi x3)] [] (hp nx s) := by
  unfold Bl_find_t7 at hs
  refine w_iload_n 3 dX0_find_7 rfl rfl ?_
  refine x_bipush dX0_find_8 (by decide) ?_
  refine x_icmpge hs dX0_find_10 rfl (fun hs => ?_) (fun hs => ?_)
  · refine w_lv (lv' := [(0, .ref 56), (1, .ref r1), (2, vi x2)]) [0, 1, 2] rfl ?_
    cases hs
    exact he0 _ rfl
  · refine w_aload_n 0 dX0_find_13 rfl rfl ?_
    refine x_getR 0 6 (b := 62) dX0_find_14 (fxX0_31 rfl) rfl rfl (lt_of hnx (Nat.le_of_ble_eq_true rfl)) rfl ?_
    refine w_iload_n 3 dX0_find_17 rfl rfl ?_
    refine x_iconst dX0_find_18 ?_
    refine x_N_V M_X11_set [.ref 62, vi x3, vi 0] [] hs rfl dX0_find_19 (lkX0_38 _ rfl) (Nat.le_of_ble_eq_true rfl) (Nat.le_of_ble_eq_true rfl) (Nat.le_of_ble_eq_true rfl) (Nat.le_of_ble_eq_true rfl) (c_Hx_set hnx 62 (rowW_of rfl (lt_of hnx (Nat.le_of_ble_eq_true rfl))) x3 0 s) (fun s3 hs3 hs => ?_)
    refine x_iinc (lv' := [(3, vi (x3 + 1)), (0, .ref 56), (1, .ref r1), (2, vi x2)]) 3 dX0_find_22 rfl (Nat.le_of_ble_eq_true rfl) rfl ?_
    refine w_goto dX0_find_25 rfl ?_
    refine w_lv (lv' := [(0, .ref 56), (1, .ref r1), (2, vi x2), (3, vi (x3 + 1))]) [1, 2, 3, 0] rfl ?_
    cases hs
    exact hb _ rfl
set_option maxRecDepth 100000 in
theorem q_Bl_find_b90 {C : Cx} {nx : Nat} (hnx : 80 ≤ nx) {Qr : Option Value → Hp → Prop} {Qx : String → Hp → Prop}  (r1 : Nat) (h_r1 : isRow nx r1) (x2 : Int) (x3 : Int) (s : Sg) {o : ((Int × Sg) ⊕ (Sg))} (hs : Bl_find_b90 r1 x2 x3 s = some o) (hb : ∀ σ : Int × Sg, o = .inl σ → ww C M_X0_find 3 0 0 nx (Qr) (Qx) nx 0 0 30 [(0, .ref 56), (1, .ref r1), (2, vi x2), (3, vi σ.1)] [] (hp nx σ.2)) (he0 : ∀ ρ : Sg, o = .inr ρ → ww C M_X0_find 3 0 0 nx (Qr) (Qx) nx 0 0 96 [] [] (hp nx ρ)) : ww C M_X0_find 3 0 0 nx (Qr) (Qx) nx 0 0 90 [(0, .ref 56), (1, .ref r1), (2, vi x2), (3, vi x3)] [] (hp nx s) := by
  unfold Bl_find_b90 at hs
  refine x_iinc (lv' := [(3, vi (x3 + 1)), (0, .ref 56), (1, .ref r1), (2, vi x2)]) 3 dX0_find_90 rfl (Nat.le_of_ble_eq_true rfl) rfl ?_
  refine w_goto dX0_find_93 rfl ?_
  refine w_lv (lv' := [(0, .ref 56), (1, .ref r1), (2, vi x2), (3, vi (x3 + 1))]) [1, 2, 3, 0] rfl ?_
  cases hs
  exact hb _ rfl
set_option maxRecDepth 100000 in
theorem q_Bl_find_t53 {C : Cx} {nx : Nat} (hnx : 80 ≤ nx) {Qr : Option Value → Hp → Prop} {Qx : String → Hp → Prop}  (r1 : Nat) (h_r1 : isRow nx r1) (x2 : Int) (x3 : Int) (x4 : Int) (s : Sg) {o : ((Int × Sg) ⊕ (Sg))} (hs : Bl_find_t53 r1 x2 x3 x4 s = some o) (hb : ∀ σ : Int × Sg, o = .inl σ → ww C M_X0_find 3 0 0 nx (Qr) (Qx) nx 0 0 53 [(0, .ref 56), (1, .ref r1), (2, vi x2), (3, vi x3), (4, vi σ.1)] [] (hp nx σ.2)) (he0 : ∀ ρ : Sg, o = .inr ρ → ww C M_X0_find 3 0 0 nx (Qr) (Qx) nx 0 0 76 [(0, .ref 56), (1, .ref r1), (2, vi x2), (3, vi x3)] [] (hp nx ρ)) : ww C M_X0_find 3 0 0 nx (Qr) (Qx) nx 0 0 53 [(0, .ref 56), (1, .ref r1), (2, vi x2), (3, vi x3), (4, vi x4)] [] (hp nx s) := by
  unfold Bl_find_t53 at hs
  refine w_iload 4 dX0_find_53 rfl ?_
  refine x_gets (i := 1002) (Nat.le_of_ble_eq_true rfl) (List.mem_of_getElem? (i := 2) rfl) dX0_find_55 (gsX0_51 rfl) ?_
  refine x_alen dX0_find_58 (isRow_A (nx := nx) (a := 1002) (Or.inr ⟨by decide, by decide⟩) : isA C nx 1002 3) ?_
  refine x_icmpge hs dX0_find_59 rfl (fun hs => ?_) (fun hs => ?_)
  · refine w_lv (lv' := [(0, .ref 56), (1, .ref r1), (2, vi x2), (3, vi x3)]) [0, 1, 2, 3] rfl ?_
    cases hs
    exact he0 _ rfl
  · refine w_aload_n 0 dX0_find_62 rfl rfl ?_
    refine w_aload_n 1 dX0_find_63 rfl rfl ?_
    refine w_iload_n 3 dX0_find_64 rfl rfl ?_
    refine w_iload 4 dX0_find_65 rfl ?_
    refine x_V_V M_X0_addToCell [.ref r1, vi x3, vi x4] [] hs rfl dX0_find_67 (lkX0_54 _ rfl) (lt_of hnx (Nat.le_of_ble_eq_true rfl)) rfl rfl (Nat.le_of_ble_eq_true rfl) (Nat.le_of_ble_eq_true rfl) (Nat.le_of_ble_eq_true rfl) (Nat.le_of_ble_eq_true rfl) (c_Bl_addToCell hnx r1 h_r1 x3 x4 s) (fun s7 hs7 hs => ?_)
    refine x_iinc (lv' := [(4, vi (x4 + 1)), (0, .ref 56), (1, .ref r1), (2, vi x2), (3, vi x3)]) 4 dX0_find_70 rfl (Nat.le_of_ble_eq_true rfl) rfl ?_
    refine w_goto dX0_find_73 rfl ?_
    refine w_lv (lv' := [(0, .ref 56), (1, .ref r1), (2, vi x2), (3, vi x3), (4, vi (x4 + 1))]) [1, 2, 3, 4, 0] rfl ?_
    cases hs
    exact hb _ rfl
set_option maxRecDepth 100000 in
theorem q_Bl_find_l53 {C : Cx} {nx : Nat} (hnx : 80 ≤ nx) {Qr : Option Value → Hp → Prop} {Qx : String → Hp → Prop}  (r1 : Nat) (h_r1 : isRow nx r1) (x2 : Int) (x3 : Int) (x4 : Int) (s : Sg) {o : ((Int × Sg) ⊕ (Sg))} (hs : Bl_find_l53 r1 x2 x3 x4 s = some o) (hb : ∀ σ : Int × Sg, o = .inl σ → ww C M_X0_find 3 0 0 nx (Qr) (Qx) nx 0 0 30 [(0, .ref 56), (1, .ref r1), (2, vi x2), (3, vi σ.1)] [] (hp nx σ.2)) (he0 : ∀ ρ : Sg, o = .inr ρ → ww C M_X0_find 3 0 0 nx (Qr) (Qx) nx 0 0 96 [] [] (hp nx ρ)) : ww C M_X0_find 3 0 0 nx (Qr) (Qx) nx 0 0 53 [(0, .ref 56), (1, .ref r1), (2, vi x2), (3, vi x3), (4, vi x4)] [] (hp nx s) := by
  unfold Bl_find_l53 at hs
  refine bnd_e hs (fun s_8 hw hs => ?_)
  have hE : ww C M_X0_find 3 0 0 nx (Qr) (Qx) nx 0 0 76 [(0, .ref 56), (1, .ref r1), (2, vi x2), (3, vi x3)] [] (hp nx s_8) := by
    refine w_aload_n 0 dX0_find_76 rfl rfl ?_
    refine w_aload_n 1 dX0_find_77 rfl rfl ?_
    refine w_iload_n 3 dX0_find_78 rfl rfl ?_
    refine x_iconst dX0_find_79 ?_
    refine x_V_V M_X0_addToEdge [.ref r1, vi x3, vi 0] [] hs rfl dX0_find_80 (lkX0_57 _ rfl) (lt_of hnx (Nat.le_of_ble_eq_true rfl)) rfl rfl (Nat.le_of_ble_eq_true rfl) (Nat.le_of_ble_eq_true rfl) (Nat.le_of_ble_eq_true rfl) (Nat.le_of_ble_eq_true rfl) (c_Bl_addToEdge hnx r1 h_r1 x3 0 s_8) (fun s10 hs10 hs => ?_)
    refine w_aload_n 0 dX0_find_83 rfl rfl ?_
    refine w_aload_n 1 dX0_find_84 rfl rfl ?_
    refine w_iload_n 3 dX0_find_85 rfl rfl ?_
    refine x_iconst dX0_find_86 ?_
    refine x_V_V M_X0_addToEdge [.ref r1, vi x3, vi 1] [] hs rfl dX0_find_87 (lkX0_57 _ rfl) (lt_of hnx (Nat.le_of_ble_eq_true rfl)) rfl rfl (Nat.le_of_ble_eq_true rfl) (Nat.le_of_ble_eq_true rfl) (Nat.le_of_ble_eq_true rfl) (Nat.le_of_ble_eq_true rfl) (c_Bl_addToEdge hnx r1 h_r1 x3 1 s10) (fun s12 hs12 hs => ?_)
    exact q_Bl_find_b90 hnx r1 h_r1 x2 x3 s12 hs hb he0
  refine whl_w (P := fun σ => ww C M_X0_find 3 0 0 nx (Qr) (Qx) nx 0 0 53 [(0, .ref 56), (1, .ref r1), (2, vi x2), (3, vi x3), (4, vi σ.1)] [] (hp nx σ.2)) (E := fun ρ => ρ = s_8) hw rfl ?_
  intro σ o' hs' hb' he'
  exact q_Bl_find_t53 hnx r1 h_r1 x2 x3 σ.1 σ.2 hs' hb' (fun ρ e => by cases he' _ e; exact hE)
set_option maxRecDepth 100000 in
theorem q_Bl_find_t30 {C : Cx} {nx : Nat} (hnx : 80 ≤ nx) {Qr : Option Value → Hp → Prop} {Qx : String → Hp → Prop}  (r1 : Nat) (h_r1 : isRow nx r1) (x2 : Int) (x3 : Int) (s : Sg) {o : ((Int × Sg) ⊕ (Sg))} (hs : Bl_find_t30 r1 x2 x3 s = some o) (hb : ∀ σ : Int × Sg, o = .inl σ → ww C M_X0_find 3 0 0 nx (Qr) (Qx) nx 0 0 30 [(0, .ref 56), (1, .ref r1), (2, vi x2), (3, vi σ.1)] [] (hp nx σ.2)) (he0 : ∀ ρ : Sg, o = .inr ρ → ww C M_X0_find 3 0 0 nx (Qr) (Qx) nx 0 0 96 [] [] (hp nx ρ)) : ww C M_X0_find 3 0 0 nx (Qr) (Qx) nx 0 0 30 [(0, .ref 56), (1, .ref r1), (2, vi x2), (3, vi x3)] [] (hp nx s) := by
  unfold Bl_find_t30 at hs
  refine w_iload_n 3 dX0_find_30 rfl rfl ?_
  refine w_aload_n 0 dX0_find_31 rfl rfl ?_
  refine x_getR 0 0 (b := 1) dX0_find_32 (fxX0_9 rfl) rfl rfl (lt_of hnx (Nat.le_of_ble_eq_true rfl)) rfl ?_
  refine x_getI 5 4 dX0_find_35 (fxX0_42 rfl) rfl rfl (lt_of hnx (Nat.le_of_ble_eq_true rfl)) ?_
  refine x_icmpge hs dX0_find_38 rfl (fun hs => ?_) (fun hs => ?_)
  · refine w_lv (lv' := []) [] rfl ?_
    cases hs
    exact he0 _ rfl
  · refine w_aload_n 1 dX0_find_41 rfl rfl ?_
    refine w_iload_n 3 dX0_find_42 rfl rfl ?_
    refine x_N_I M_X11_at [.ref r1, vi x3] [] hs rfl dX0_find_43 (lkX0_47 _ rfl) (Nat.le_of_ble_eq_true rfl) (Nat.le_of_ble_eq_true rfl) (Nat.le_of_ble_eq_true rfl) (Nat.le_of_ble_eq_true rfl) (c_Hx_at hnx r1 h_r1 x3 s) (fun y5 hy5 hs => ?_)
    refine w_iload_n 2 dX0_find_46 rfl rfl ?_
    refine x_icmpne hs dX0_find_47 rfl (fun hs => ?_) (fun hs => ?_)
    · exact q_Bl_find_b90 hnx r1 h_r1 x2 x3 s hs hb he0
    · refine x_iconst dX0_find_50 ?_
      refine w_istore (lv' := [(4, vi 0), (0, .ref 56), (1, .ref r1), (2, vi x2), (3, vi x3)]) dX0_find_51 (Nat.le_of_ble_eq_true rfl) rfl ?_
      refine w_lv (lv' := [(0, .ref 56), (1, .ref r1), (2, vi x2), (3, vi x3), (4, vi 0)]) [1, 2, 3, 4, 0] rfl ?_
      exact q_Bl_find_l53 hnx r1 h_r1 x2 x3 0 s hs hb he0
set_option maxRecDepth 100000 in
theorem q_Bl_find_l30 {C : Cx} {nx : Nat} (hnx : 80 ≤ nx) (r1 : Nat) (h_r1 : isRow nx r1) (x2 : Int) (x3 : Int) (s : Sg) {o : Sg} (hs : Bl_find_l30 r1 x2 x3 s = some o) : ww C M_X0_find 3 0 0 nx (QV nx o) (XF) nx 0 0 30 [(0, .ref 56), (1, .ref r1), (2, vi x2), (3, vi x3)] [] (hp nx s) := by
  unfold Bl_find_l30 at hs
  refine bnd_e hs (fun s_13 hw hs => ?_)
  have hE : ww C M_X0_find 3 0 0 nx (QV nx o) (XF) nx 0 0 96 [] [] (hp nx s_13) := by
    cases hs
    exact w_return rfl dX0_find_96 rfl (Nat.le_of_ble_eq_true rfl) (Nat.le_of_ble_eq_true rfl) ⟨rfl, rfl⟩
  refine whl_w (P := fun σ => ww C M_X0_find 3 0 0 nx (QV nx o) (XF) nx 0 0 30 [(0, .ref 56), (1, .ref r1), (2, vi x2), (3, vi σ.1)] [] (hp nx σ.2)) (E := fun ρ => ρ = s_13) hw rfl ?_
  intro σ o' hs' hb' he'
  exact q_Bl_find_t30 hnx r1 h_r1 x2 σ.1 σ.2 hs' hb' (fun ρ e => by cases he' _ e; exact hE)
set_option maxRecDepth 100000 in
theorem q_Bl_find_l7 {C : Cx} {nx : Nat} (hnx : 80 ≤ nx) (r1 : Nat) (h_r1 : isRow nx r1) (x2 : Int) (x3 : Int) (s : Sg) {o : Sg} (hs : Bl_find_l7 r1 x2 x3 s = some o) : ww C M_X0_find 3 0 0 nx (QV nx o) (XF) nx 0 0 7 [(0, .ref 56), (1, .ref r1), (2, vi x2), (3, vi x3)] [] (hp nx s) := by
  unfold Bl_find_l7 at hs
  refine bnd_e hs (fun s_4 hw hs => ?_)
  have hE : ww C M_X0_find 3 0 0 nx (QV nx o) (XF) nx 0 0 28 [(0, .ref 56), (1, .ref r1), (2, vi x2)] [] (hp nx s_4) := by
    refine x_iconst dX0_find_28 ?_
    refine w_istore_n (lv' := [(3, vi 0), (0, .ref 56), (1, .ref r1), (2, vi x2)]) dX0_find_29 rfl (Nat.le_of_ble_eq_true rfl) rfl ?_
    refine w_lv (lv' := [(0, .ref 56), (1, .ref r1), (2, vi x2), (3, vi 0)]) [1, 2, 3, 0] rfl ?_
    exact q_Bl_find_l30 hnx r1 h_r1 x2 0 s_4 hs
  refine whl_w (P := fun σ => ww C M_X0_find 3 0 0 nx (QV nx o) (XF) nx 0 0 7 [(0, .ref 56), (1, .ref r1), (2, vi x2), (3, vi σ.1)] [] (hp nx σ.2)) (E := fun ρ => ρ = s_4) hw rfl ?_
  intro σ o' hs' hb' he'
  exact q_Bl_find_t7 hnx r1 h_r1 x2 σ.1 σ.2 hs' hb' (fun ρ e => by cases he' _ e; exact hE)
set_option maxRecDepth 100000 in
theorem c_Bl_find {C : Cx} {nx : Nat} (hnx : 80 ≤ nx) (r1 : Nat) (h_r1 : isRow nx r1) (x2 : Int) (s : Sg) : ∀ o, Bl_find r1 x2 s = some o → mm C M_X0_find 3 0 0 nx nx [.ref 56, .ref r1, vi x2] (hp nx s) (QV nx o) (XF) := by
  intro o hs
  unfold Bl_find at hs
  refine mm_of rfl rfl (Nat.le_of_ble_eq_true rfl) ?_
  show ww C M_X0_find 3 0 0 nx (QV nx o) (XF) nx 0 0 0 [(0, .ref 56), (1, .ref r1), (2, vi x2)] [] (hp nx s)
  refine w_aload_n 0 dX0_find_0 rfl rfl ?_
  refine x_iconst dX0_find_1 ?_
  refine x_putI 0 7 dX0_find_2 (poX0_34 rfl) rfl rfl (lt_of hnx (Nat.le_of_ble_eq_true rfl)) ?_
  refine nam_s hs (fun s1 hs => ?_)
  refine x_iconst dX0_find_5 ?_
  refine w_istore_n (lv' := [(3, vi 0), (0, .ref 56), (1, .ref r1), (2, vi x2)]) dX0_find_6 rfl (Nat.le_of_ble_eq_true rfl) rfl ?_
  refine w_lv (lv' := [(0, .ref 56), (1, .ref r1), (2, vi x2), (3, vi 0)]) [1, 2, 3, 0] rfl ?_
  exact q_Bl_find_l7 hnx r1 h_r1 x2 0 s1 hs
set_option maxRecDepth 100000 in
theorem q_Bl_has_b36 {C : Cx} {nx : Nat} (hnx : 80 ≤ nx) {Qr : Option Value → Hp → Prop} {Qx : String → Hp → Prop}  (x1 : Int) (x2 : Int) (x3 : Int) (s : Sg) {o : ((Int) ⊕ ((Unit) ⊕ (Unit)))} (hs : Bl_has_b36 x1 x2 x3 s = some o) (hb : ∀ σ : Int, o = .inl σ → ww C M_X0_has 1 0 0 nx (Qr) (Qx) nx 0 0 2 [(0, .ref 56), (1, vi x1), (2, vi x2), (3, vi σ)] [] (hp nx s)) (he0 : ∀ ρ : Unit, o = .inr (.inl ρ) → ww C M_X0_has 1 0 0 nx (Qr) (Qx) nx 0 0 34 [] [] (hp nx s)) (he1 : ∀ ρ : Unit, o = .inr (.inr ρ) → ww C M_X0_has 1 0 0 nx (Qr) (Qx) nx 0 0 42 [] [] (hp nx s)) : ww C M_X0_has 1 0 0 nx (Qr) (Qx) nx 0 0 36 [(0, .ref 56), (1, vi x1), (2, vi x2), (3, vi x3)] [] (hp nx s) := by
  unfold Bl_has_b36 at hs
  refine x_iinc (lv' := [(3, vi (x3 + 1)), (0, .ref 56), (1, vi x1), (2, vi x2)]) 3 dX0_has_36 rfl (Nat.le_of_ble_eq_true rfl) rfl ?_
  refine w_goto dX0_has_39 rfl ?_
  refine w_lv (lv' := [(0, .ref 56), (1, vi x1), (2, vi x2), (3, vi (x3 + 1))]) [1, 2, 3, 0] rfl ?_
  cases hs
  exact hb _ rfl
set_option maxRecDepth 100000 in
theorem q_Bl_has_t2 {C : Cx} {nx : Nat} (hnx : 80 ≤ nx) {Qr : Option Value → Hp → Prop} {Qx : String → Hp → Prop}  (x1 : Int) (x2 : Int) (x3 : Int) (s : Sg) {o : ((Int) ⊕ ((Unit) ⊕ (Unit)))} (hs : Bl_has_t2 x1 x2 x3 s = some o) (hb : ∀ σ : Int, o = .inl σ → ww C M_X0_has 1 0 0 nx (Qr) (Qx) nx 0 0 2 [(0, .ref 56), (1, vi x1), (2, vi x2), (3, vi σ)] [] (hp nx s)) (he0 : ∀ ρ : Unit, o = .inr (.inl ρ) → ww C M_X0_has 1 0 0 nx (Qr) (Qx) nx 0 0 34 [] [] (hp nx s)) (he1 : ∀ ρ : Unit, o = .inr (.inr ρ) → ww C M_X0_has 1 0 0 nx (Qr) (Qx) nx 0 0 42 [] [] (hp nx s)) : ww C M_X0_has 1 0 0 nx (Qr) (Qx) nx 0 0 2 [(0, .ref 56), (1, vi x1), (2, vi x2), (3, vi x3)] [] (hp nx s) := by
  unfold Bl_has_t2 at hs
  refine w_iload_n 3 dX0_has_2 rfl rfl ?_
  refine w_aload_n 0 dX0_has_3 rfl rfl ?_
  refine x_getI 0 7 dX0_has_4 (fxX0_34 rfl) rfl rfl (lt_of hnx (Nat.le_of_ble_eq_true rfl)) ?_
  refine x_icmpge hs dX0_has_7 rfl (fun hs => ?_) (fun hs => ?_)
  · refine w_lv (lv' := []) [] rfl ?_
    cases hs
    exact he1 _ rfl
  · refine w_aload_n 0 dX0_has_10 rfl rfl ?_
    refine x_getR 0 1 (b := 57) dX0_has_11 (fxX0_15 rfl) rfl rfl (lt_of hnx (Nat.le_of_ble_eq_true rfl)) rfl ?_
    refine w_iload_n 3 dX0_has_14 rfl rfl ?_
    refine x_N_I M_X11_at [.ref 57, vi x3] [] hs rfl dX0_has_15 (lkX0_47 _ rfl) (Nat.le_of_ble_eq_true rfl) (Nat.le_of_ble_eq_true rfl) (Nat.le_of_ble_eq_true rfl) (Nat.le_of_ble_eq_true rfl) (c_Hx_at hnx 57 (Or.inl (rowW_of rfl (lt_of hnx (Nat.le_of_ble_eq_true rfl)))) x3 s) (fun y1 hy1 hs => ?_)
    refine w_iload_n 1 dX0_has_18 rfl rfl ?_
    refine x_icmpne hs dX0_has_19 rfl (fun hs => ?_) (fun hs => ?_)
    · exact q_Bl_has_b36 hnx x1 x2 x3 s hs hb he0 he1
    · refine w_aload_n 0 dX0_has_22 rfl rfl ?_
      refine x_getR 0 2 (b := 58) dX0_has_23 (fxX0_19 rfl) rfl rfl (lt_of hnx (Nat.le_of_ble_eq_true rfl)) rfl ?_
      refine w_iload_n 3 dX0_has_26 rfl rfl ?_
      refine x_N_I M_X11_at [.ref 58, vi x3] [] hs rfl dX0_has_27 (lkX0_47 _ rfl) (Nat.le_of_ble_eq_true rfl) (Nat.le_of_ble_eq_true rfl) (Nat.le_of_ble_eq_true rfl) (Nat.le_of_ble_eq_true rfl) (c_Hx_at hnx 58 (Or.inl (rowW_of rfl (lt_of hnx (Nat.le_of_ble_eq_true rfl)))) x3 s) (fun y2 hy2 hs => ?_)
      refine w_iload_n 2 dX0_has_30 rfl rfl ?_
      refine x_icmpne hs dX0_has_31 rfl (fun hs => ?_) (fun hs => ?_)
      · exact q_Bl_has_b36 hnx x1 x2 x3 s hs hb he0 he1
      · refine w_lv (lv' := []) [] rfl ?_
        cases hs
        exact he0 _ rfl
set_option maxRecDepth 100000 in
theorem q_Bl_has_l2 {C : Cx} {nx : Nat} (hnx : 80 ≤ nx) (x1 : Int) (x2 : Int) (x3 : Int) (s : Sg) {o : Int} (hs : Bl_has_l2 x1 x2 x3 s = some o) : ww C M_X0_has 1 0 0 nx (QI nx s o) (XF) nx 0 0 2 [(0, .ref 56), (1, vi x1), (2, vi x2), (3, vi x3)] [] (hp nx s) := by
  unfold Bl_has_l2 at hs
  refine bnd_e hs (fun ρ hw hs => ?_)
  rcases ρ with ⟨⟩ | ⟨⟩
  · have hE : ww C M_X0_has 1 0 0 nx (QI nx s o) (XF) nx 0 0 34 [] [] (hp nx s) := by
      refine x_iconst dX0_has_34 ?_
      cases hs
      exact x_zreturn (Or.inr rfl) dX0_has_35 rfl rfl (Nat.le_of_ble_eq_true rfl) (Nat.le_of_ble_eq_true rfl) ⟨rfl, rfl⟩
    refine whl_w (P := fun σ => ww C M_X0_has 1 0 0 nx (QI nx s o) (XF) nx 0 0 2 [(0, .ref 56), (1, vi x1), (2, vi x2), (3, vi σ)] [] (hp nx s)) (E := fun ρ => ρ = (.inl ())) hw rfl ?_
    intro σ o' hs' hb' he'
    exact q_Bl_has_t2 hnx x1 x2 σ s hs' hb' (fun ρ e => by cases he' _ e; exact hE) (fun ρ e => by cases he' _ e)
  · have hE : ww C M_X0_has 1 0 0 nx (QI nx s o) (XF) nx 0 0 42 [] [] (hp nx s) := by
      refine x_iconst dX0_has_42 ?_
      cases hs
      exact x_zreturn (Or.inl rfl) dX0_has_43 rfl rfl (Nat.le_of_ble_eq_true rfl) (Nat.le_of_ble_eq_true rfl) ⟨rfl, rfl⟩
    refine whl_w (P := fun σ => ww C M_X0_has 1 0 0 nx (QI nx s o) (XF) nx 0 0 2 [(0, .ref 56), (1, vi x1), (2, vi x2), (3, vi σ)] [] (hp nx s)) (E := fun ρ => ρ = (.inr ())) hw rfl ?_
    intro σ o' hs' hb' he'
    exact q_Bl_has_t2 hnx x1 x2 σ s hs' hb' (fun ρ e => by cases he' _ e) (fun ρ e => by cases he' _ e; exact hE)
set_option maxRecDepth 100000 in
theorem c_Bl_has {C : Cx} {nx : Nat} (hnx : 80 ≤ nx) (x1 : Int) (x2 : Int) (s : Sg) : ∀ o, Bl_has x1 x2 s = some o → mm C M_X0_has 1 0 0 nx nx [.ref 56, vi x1, vi x2] (hp nx s) (QI nx s o) (XF) := by
  intro o hs
  unfold Bl_has at hs
  refine mm_of rfl rfl (Nat.le_of_ble_eq_true rfl) ?_
  show ww C M_X0_has 1 0 0 nx (QI nx s o) (XF) nx 0 0 0 [(0, .ref 56), (1, vi x1), (2, vi x2)] [] (hp nx s)
  refine x_iconst dX0_has_0 ?_
  refine w_istore_n (lv' := [(3, vi 0), (0, .ref 56), (1, vi x1), (2, vi x2)]) dX0_has_1 rfl (Nat.le_of_ble_eq_true rfl) rfl ?_
  refine w_lv (lv' := [(0, .ref 56), (1, vi x1), (2, vi x2), (3, vi 0)]) [1, 2, 3, 0] rfl ?_
  exact q_Bl_has_l2 hnx x1 x2 0 s hs
set_option maxRecDepth 100000 in
theorem c_Hx_isBridge {C : Cx} {nx : Nat} (hnx : 80 ≤ nx) (x1 : Int) (x2 : Int) (s : Sg) : ∀ o, Hx_isBridge x1 x2 s = some o → mm C M_X11_isBridge 10 0 0 nx nx [.ref 0, vi x1, vi x2] (hp nx s) (QT nx o) (XF) := by
  intro o hs
  unfold Hx_isBridge at hs
  refine mm_of rfl rfl (Nat.le_of_ble_eq_true rfl) ?_
  show ww C M_X11_isBridge 10 0 0 nx (QT nx o) (XF) nx 0 0 0 [(0, .ref 0), (1, vi x1), (2, vi x2)] [] (hp nx s)
  refine w_aload_n 0 dX11_isBridge_0 rfl rfl ?_
  refine w_iload_n 1 dX11_isBridge_1 rfl rfl ?_
  refine x_V_U M_X11_requireCell [vi x1] [] hs rfl dX11_isBridge_2 (lkX11_180 _ rfl) (lt_of hnx (Nat.le_of_ble_eq_true rfl)) rfl rfl (Nat.le_of_ble_eq_true rfl) (Nat.le_of_ble_eq_true rfl) (Nat.le_of_ble_eq_true rfl) (Nat.le_of_ble_eq_true rfl) (c_Hx_requireCell hnx x1 s) (fun y1 s2 hy1 hs => ?_)
  refine w_aload_n 0 dX11_isBridge_5 rfl rfl ?_
  refine w_iload_n 2 dX11_isBridge_6 rfl rfl ?_
  refine x_V_U M_X11_requireCell [vi x2] [] hs rfl dX11_isBridge_7 (lkX11_180 _ rfl) (lt_of hnx (Nat.le_of_ble_eq_true rfl)) rfl rfl (Nat.le_of_ble_eq_true rfl) (Nat.le_of_ble_eq_true rfl) (Nat.le_of_ble_eq_true rfl) (Nat.le_of_ble_eq_true rfl) (c_Hx_requireCell hnx x2 s2) (fun y3 s4 hy3 hs => ?_)
  refine w_aload_n 0 dX11_isBridge_10 rfl rfl ?_
  refine x_getR 11 2 (b := 10) dX11_isBridge_11 (fxX11_28 rfl) rfl rfl (lt_of hnx (Nat.le_of_ble_eq_true rfl)) rfl ?_
  refine w_iload_n 1 dX11_isBridge_14 rfl rfl ?_
  refine x_V_I M_X9_stone [vi x1] [] hs rfl dX11_isBridge_15 (lkX11_183 _ rfl) (lt_of hnx (Nat.le_of_ble_eq_true rfl)) rfl rfl (Nat.le_of_ble_eq_true rfl) (Nat.le_of_ble_eq_true rfl) (Nat.le_of_ble_eq_true rfl) (Nat.le_of_ble_eq_true rfl) (c_Po_stone hnx 10 (show 10 ∈ posL by decide) x1 s4) (fun y5 hy5 hs => ?_)
  refine w_istore_n (lv' := [(3, vi y5), (0, .ref 0), (1, vi x1), (2, vi x2)]) dX11_isBridge_18 rfl (Nat.le_of_ble_eq_true rfl) rfl ?_
  refine w_iload_n 0 dX11_isBridge_19 rfl rfl ?_
  refine x_iconst dX11_isBridge_20 ?_
  refine x_icmpne hs dX11_isBridge_21 rfl (fun hs => ?_) (fun hs => ?_)
  · refine w_aload_n 1 dX11_isBridge_26 rfl rfl ?_
    refine x_getR 11 10 (b := 56) dX11_isBridge_27 (fxX11_72 rfl) rfl rfl (lt_of hnx (Nat.le_of_ble_eq_true rfl)) rfl ?_
    refine w_aload_n 1 dX11_isBridge_30 rfl rfl ?_
    refine x_getR 11 2 (b := 10) dX11_isBridge_31 (fxX11_28 rfl) rfl rfl (lt_of hnx (Nat.le_of_ble_eq_true rfl)) rfl ?_
    refine x_getR 9 0 (b := 11) dX11_isBridge_34 (fxX11_194 rfl) rfl rfl (lt_of hnx (Nat.le_of_ble_eq_true rfl)) rfl ?_
    refine w_iload_n 0 dX11_isBridge_37 rfl rfl ?_
    refine x_V_V M_X0_find [.ref 11, vi y5] [] hs rfl dX11_isBridge_38 (lkX11_220 _ rfl) (lt_of hnx (Nat.le_of_ble_eq_true rfl)) rfl rfl (Nat.le_of_ble_eq_true rfl) (Nat.le_of_ble_eq_true rfl) (Nat.le_of_ble_eq_true rfl) (Nat.le_of_ble_eq_true rfl) (c_Bl_find hnx 11 (Or.inl (rowW_of rfl (lt_of hnx (Nat.le_of_ble_eq_true rfl)))) y5 s4) (fun s7 hs7 hs => ?_)
    refine w_aload_n 1 dX11_isBridge_41 rfl rfl ?_
    refine x_getR 11 10 (b := 56) dX11_isBridge_42 (fxX11_72 rfl) rfl rfl (lt_of hnx (Nat.le_of_ble_eq_true rfl)) rfl ?_
    refine w_iload_n 2 dX11_isBridge_45 rfl rfl ?_
    refine w_iload_n 3 dX11_isBridge_46 rfl rfl ?_
    refine grd_e hs (fun hg8 hs => ?_)
    refine x_mmin hg8.1 hg8.2 dX11_isBridge_47 (lkX11_223 rfl) (Nat.le_of_ble_eq_true rfl) (Nat.le_of_ble_eq_true rfl) (Nat.le_of_ble_eq_true rfl) (Nat.le_of_ble_eq_true rfl) ?_
    refine w_iload_n 2 dX11_isBridge_50 rfl rfl ?_
    refine w_iload_n 3 dX11_isBridge_51 rfl rfl ?_
    refine grd_e hs (fun hg9 hs => ?_)
    refine x_mmax hg9.1 hg9.2 dX11_isBridge_52 (lkX11_228 rfl) (Nat.le_of_ble_eq_true rfl) (Nat.le_of_ble_eq_true rfl) (Nat.le_of_ble_eq_true rfl) (Nat.le_of_ble_eq_true rfl) ?_
    refine x_V_I M_X0_has [vi (min x1 x2), vi (max x1 x2)] [] hs rfl dX11_isBridge_55 (lkX11_231 _ rfl) (lt_of hnx (Nat.le_of_ble_eq_true rfl)) rfl rfl (Nat.le_of_ble_eq_true rfl) (Nat.le_of_ble_eq_true rfl) (Nat.le_of_ble_eq_true rfl) (Nat.le_of_ble_eq_true rfl) (c_Bl_has hnx (min x1 x2) (max x1 x2) s7) (fun y10 hy10 hs => ?_)
    refine grd_e hs (fun hg11 hs => ?_)
    cases hs
    exact x_zreturn hg11 dX11_isBridge_58 rfl rfl (Nat.le_of_ble_eq_true rfl) (Nat.le_of_ble_eq_true rfl) ⟨_, rfl, rfl, rfl⟩
  · refine x_iconst dX11_isBridge_24 ?_
    cases hs
    exact x_zreturn (Or.inl rfl) dX11_isBridge_25 rfl rfl (Nat.le_of_ble_eq_true rfl) (Nat.le_of_ble_eq_true rfl) ⟨_, rfl, rfl, rfl⟩
set_option maxRecDepth 100000 in
theorem q_Bl_counting_t4 {C : Cx} {nx : Nat} (hnx : 80 ≤ nx) {Qr : Option Value → Hp → Prop} {Qx : String → Hp → Prop}  (x1 : Int) (x2 : Int) (s : Sg) {o : ((Int × Int) ⊕ (Int))} (hs : Bl_counting_t4 x1 x2 s = some o) (hb : ∀ σ : Int × Int, o = .inl σ → ww C M_X0_counting 1 0 0 nx (Qr) (Qx) nx 0 0 4 [(0, .ref 56), (1, vi σ.1), (2, vi σ.2)] [] (hp nx s)) (he0 : ∀ ρ : Int, o = .inr ρ → ww C M_X0_counting 1 0 0 nx (Qr) (Qx) nx 0 0 29 [(1, vi ρ)] [] (hp nx s)) : ww C M_X0_counting 1 0 0 nx (Qr) (Qx) nx 0 0 4 [(0, .ref 56), (1, vi x1), (2, vi x2)] [] (hp nx s) := by
  unfold Bl_counting_t4 at hs
  refine w_iload_n 2 dX0_counting_4 rfl rfl ?_
  refine w_aload_n 0 dX0_counting_5 rfl rfl ?_
  refine x_getI 0 7 dX0_counting_6 (fxX0_34 rfl) rfl rfl (lt_of hnx (Nat.le_of_ble_eq_true rfl)) ?_
  refine x_icmpge hs dX0_counting_9 rfl (fun hs => ?_) (fun hs => ?_)
  · refine w_lv (lv' := [(1, vi x1)]) [1] rfl ?_
    cases hs
    exact he0 _ rfl
  · refine w_iload_n 1 dX0_counting_12 rfl rfl ?_
    refine w_aload_n 0 dX0_counting_13 rfl rfl ?_
    refine x_getR 0 5 (b := 61) dX0_counting_14 (fxX0_28 rfl) rfl rfl (lt_of hnx (Nat.le_of_ble_eq_true rfl)) rfl ?_
    refine w_iload_n 2 dX0_counting_17 rfl rfl ?_
    refine x_N_I M_X11_at [.ref 61, vi x2] [vi x1] hs rfl dX0_counting_18 (lkX0_47 _ rfl) (Nat.le_of_ble_eq_true rfl) (Nat.le_of_ble_eq_true rfl) (Nat.le_of_ble_eq_true rfl) (Nat.le_of_ble_eq_true rfl) (c_Hx_at hnx 61 (Or.inl (rowW_of rfl (lt_of hnx (Nat.le_of_ble_eq_true rfl)))) x2 s) (fun y1 hy1 hs => ?_)
    refine x_iadd dX0_counting_21 ?_
    refine x_istore_n (fun x1_2 => [(1, vi x1_2), (0, .ref 56), (2, vi x2)]) hs dX0_counting_22 rfl (Nat.le_of_ble_eq_true rfl) (fun _ => rfl) (fun x1_2 hs => ?_)
    refine x_iinc (lv' := [(2, vi (x2 + 1)), (1, vi x1_2), (0, .ref 56)]) 2 dX0_counting_23 rfl (Nat.le_of_ble_eq_true rfl) rfl ?_
    refine w_goto dX0_counting_26 rfl ?_
    refine w_lv (lv' := [(0, .ref 56), (1, vi x1_2), (2, vi (x2 + 1))]) [2, 1, 0] rfl ?_
    cases hs
    exact hb _ rfl
set_option maxRecDepth 100000 in
theorem q_Bl_counting_l4 {C : Cx} {nx : Nat} (hnx : 80 ≤ nx) (x1 : Int) (x2 : Int) (s : Sg) {o : Int} (hs : Bl_counting_l4 x1 x2 s = some o) : ww C M_X0_counting 1 0 0 nx (QI nx s o) (XF) nx 0 0 4 [(0, .ref 56), (1, vi x1), (2, vi x2)] [] (hp nx s) := by
  unfold Bl_counting_l4 at hs
  refine bnd_e hs (fun x1_3 hw hs => ?_)
  have hE : ww C M_X0_counting 1 0 0 nx (QI nx s o) (XF) nx 0 0 29 [(1, vi x1_3)] [] (hp nx s) := by
    refine w_iload_n 0 dX0_counting_29 rfl rfl ?_
    cases hs
    exact x_ireturn dX0_counting_30 rfl rfl (Nat.le_of_ble_eq_true rfl) (Nat.le_of_ble_eq_true rfl) ⟨rfl, rfl⟩
  refine whl_w (P := fun σ => ww C M_X0_counting 1 0 0 nx (QI nx s o) (XF) nx 0 0 4 [(0, .ref 56), (1, vi σ.1), (2, vi σ.2)] [] (hp nx s)) (E := fun ρ => ρ = x1_3) hw rfl ?_
  intro σ o' hs' hb' he'
  exact q_Bl_counting_t4 hnx σ.1 σ.2 s hs' hb' (fun ρ e => by cases he' _ e; exact hE)
set_option maxRecDepth 100000 in
theorem c_Bl_counting {C : Cx} {nx : Nat} (hnx : 80 ≤ nx)  (s : Sg) : ∀ o, Bl_counting  s = some o → mm C M_X0_counting 1 0 0 nx nx [.ref 56] (hp nx s) (QI nx s o) (XF) := by
  intro o hs
  unfold Bl_counting at hs
  refine mm_of rfl rfl (Nat.le_of_ble_eq_true rfl) ?_
  show ww C M_X0_counting 1 0 0 nx (QI nx s o) (XF) nx 0 0 0 [(0, .ref 56)] [] (hp nx s)
  refine x_iconst dX0_counting_0 ?_
  refine w_istore_n (lv' := [(1, vi 0), (0, .ref 56)]) dX0_counting_1 rfl (Nat.le_of_ble_eq_true rfl) rfl ?_
  refine x_iconst dX0_counting_2 ?_
  refine w_istore_n (lv' := [(2, vi 0), (1, vi 0), (0, .ref 56)]) dX0_counting_3 rfl (Nat.le_of_ble_eq_true rfl) rfl ?_
  refine w_lv (lv' := [(0, .ref 56), (1, vi 0), (2, vi 0)]) [2, 1, 0] rfl ?_
  exact q_Bl_counting_l4 hnx 0 0 s hs
set_option maxRecDepth 100000 in
theorem c_Hx_bridges {C : Cx} {nx : Nat} (hnx : 80 ≤ nx) (x1 : Int) (x2 : Int) (s : Sg) : ∀ o, Hx_bridges x1 x2 s = some o → mm C M_X11_bridges 10 0 0 nx nx [.ref 0, vi x1, vi x2] (hp nx s) (QT nx o) (XF) := by
  intro o hs
  unfold Hx_bridges at hs
  refine mm_of rfl rfl (Nat.le_of_ble_eq_true rfl) ?_
  show ww C M_X11_bridges 10 0 0 nx (QT nx o) (XF) nx 0 0 0 [(0, .ref 0), (1, vi x1), (2, vi x2)] [] (hp nx s)
  refine w_iload_n 1 dX11_bridges_0 rfl rfl ?_
  refine x_S_U M_X11_requireSide [vi x1] [] hs rfl dX11_bridges_1 (lkX11_211 _ rfl) (Nat.le_of_ble_eq_true rfl) (Nat.le_of_ble_eq_true rfl) (Nat.le_of_ble_eq_true rfl) (Nat.le_of_ble_eq_true rfl) (c_Hx_requireSide hnx x1 s) (fun y1 s2 hy1 hs => ?_)
  refine w_aload_n 0 dX11_bridges_4 rfl rfl ?_
  refine x_getR 11 10 (b := 56) dX11_bridges_5 (fxX11_72 rfl) rfl rfl (lt_of hnx (Nat.le_of_ble_eq_true rfl)) rfl ?_
  refine w_aload_n 0 dX11_bridges_8 rfl rfl ?_
  refine x_getR 11 2 (b := 10) dX11_bridges_9 (fxX11_28 rfl) rfl rfl (lt_of hnx (Nat.le_of_ble_eq_true rfl)) rfl ?_
  refine x_getR 9 0 (b := 11) dX11_bridges_12 (fxX11_194 rfl) rfl rfl (lt_of hnx (Nat.le_of_ble_eq_true rfl)) rfl ?_
  refine w_iload_n 1 dX11_bridges_15 rfl rfl ?_
  refine x_V_V M_X0_find [.ref 11, vi x1] [] hs rfl dX11_bridges_16 (lkX11_220 _ rfl) (lt_of hnx (Nat.le_of_ble_eq_true rfl)) rfl rfl (Nat.le_of_ble_eq_true rfl) (Nat.le_of_ble_eq_true rfl) (Nat.le_of_ble_eq_true rfl) (Nat.le_of_ble_eq_true rfl) (c_Bl_find hnx 11 (Or.inl (rowW_of rfl (lt_of hnx (Nat.le_of_ble_eq_true rfl)))) x1 s2) (fun s4 hs4 hs => ?_)
  refine w_iload_n 2 dX11_bridges_19 rfl rfl ?_
  refine x_ifeq hs dX11_bridges_20 rfl (fun hs => ?_) (fun hs => ?_)
  · refine w_aload_n 0 dX11_bridges_33 rfl rfl ?_
    refine x_getR 11 10 (b := 56) dX11_bridges_34 (fxX11_72 rfl) rfl rfl (lt_of hnx (Nat.le_of_ble_eq_true rfl)) rfl ?_
    refine x_getI 0 7 dX11_bridges_37 (fxX11_238 rfl) rfl rfl (lt_of hnx (Nat.le_of_ble_eq_true rfl)) ?_
    cases hs
    exact x_ireturn dX11_bridges_40 rfl rfl (Nat.le_of_ble_eq_true rfl) (Nat.le_of_ble_eq_true rfl) ⟨_, rfl, rfl, rfl⟩
  · refine w_aload_n 0 dX11_bridges_23 rfl rfl ?_
    refine x_getR 11 10 (b := 56) dX11_bridges_24 (fxX11_72 rfl) rfl rfl (lt_of hnx (Nat.le_of_ble_eq_true rfl)) rfl ?_
    refine x_V_I M_X0_counting [] [] hs rfl dX11_bridges_27 (lkX11_235 _ rfl) (lt_of hnx (Nat.le_of_ble_eq_true rfl)) rfl rfl (Nat.le_of_ble_eq_true rfl) (Nat.le_of_ble_eq_true rfl) (Nat.le_of_ble_eq_true rfl) (Nat.le_of_ble_eq_true rfl) (c_Bl_counting hnx s4) (fun y5 hy5 hs => ?_)
    refine w_goto dX11_bridges_30 rfl ?_
    cases hs
    exact x_ireturn dX11_bridges_40 rfl rfl (Nat.le_of_ble_eq_true rfl) (Nat.le_of_ble_eq_true rfl) ⟨_, rfl, rfl, rfl⟩
set_option maxRecDepth 100000 in
theorem c_Bl_number {C : Cx} {nx : Nat} (hnx : 80 ≤ nx) (x1 : Int) (x2 : Int) (s : Sg) : ∀ o, Bl_number x1 x2 s = some o → mm C M_X0_number 1 0 0 nx nx [.ref 56, vi x1, vi x2] (hp nx s) (QI nx s o) (XF) := by
  intro o hs
  unfold Bl_number at hs
  refine mm_of rfl rfl (Nat.le_of_ble_eq_true rfl) ?_
  show ww C M_X0_number 1 0 0 nx (QI nx s o) (XF) nx 0 0 0 [(0, .ref 56), (1, vi x1), (2, vi x2)] [] (hp nx s)
  refine w_iload_n 1 dX0_number_0 rfl rfl ?_
  refine x_iflt hs dX0_number_1 rfl (fun hs => ?_) (fun hs => ?_)
  · refine x_iconst dX0_number_12 ?_
    cases hs
    exact x_ireturn dX0_number_13 rfl rfl (Nat.le_of_ble_eq_true rfl) (Nat.le_of_ble_eq_true rfl) ⟨rfl, rfl⟩
  · refine w_iload_n 1 dX0_number_4 rfl rfl ?_
    refine w_aload_n 0 dX0_number_5 rfl rfl ?_
    refine x_getI 0 7 dX0_number_6 (fxX0_34 rfl) rfl rfl (lt_of hnx (Nat.le_of_ble_eq_true rfl)) ?_
    refine x_icmplt hs dX0_number_9 rfl (fun hs => ?_) (fun hs => ?_)
    · refine w_iload_n 2 dX0_number_14 rfl rfl ?_
      refine ifEq_c hs (fun hR3 hz2 hs => ?_) (fun hR3 hz2 hs => ?_)
      · refine x_tableIn 0 hz2 (by unfold R; omega) dX0_number_15 (by decide) (by decide) rfl rfl ?_
        refine w_aload_n 0 dX0_number_44 rfl rfl ?_
        refine x_getR 0 1 (b := 57) dX0_number_45 (fxX0_15 rfl) rfl rfl (lt_of hnx (Nat.le_of_ble_eq_true rfl)) rfl ?_
        refine w_iload_n 1 dX0_number_48 rfl rfl ?_
        refine x_N_I M_X11_at [.ref 57, vi x1] [] hs rfl dX0_number_49 (lkX0_47 _ rfl) (Nat.le_of_ble_eq_true rfl) (Nat.le_of_ble_eq_true rfl) (Nat.le_of_ble_eq_true rfl) (Nat.le_of_ble_eq_true rfl) (c_Hx_at hnx 57 (Or.inl (rowW_of rfl (lt_of hnx (Nat.le_of_ble_eq_true rfl)))) x1 s) (fun y1 hy1 hs => ?_)
        cases hs
        exact x_ireturn dX0_number_52 rfl rfl (Nat.le_of_ble_eq_true rfl) (Nat.le_of_ble_eq_true rfl) ⟨rfl, rfl⟩
      refine ifEq_c hs (fun hR6 hz5 hs => ?_) (fun hR6 hz5 hs => ?_)
      · refine x_tableIn 1 hz5 (by unfold R; omega) dX0_number_15 (by decide) (by decide) rfl rfl ?_
        refine w_aload_n 0 dX0_number_53 rfl rfl ?_
        refine x_getR 0 2 (b := 58) dX0_number_54 (fxX0_19 rfl) rfl rfl (lt_of hnx (Nat.le_of_ble_eq_true rfl)) rfl ?_
        refine w_iload_n 1 dX0_number_57 rfl rfl ?_
        refine x_N_I M_X11_at [.ref 58, vi x1] [] hs rfl dX0_number_58 (lkX0_47 _ rfl) (Nat.le_of_ble_eq_true rfl) (Nat.le_of_ble_eq_true rfl) (Nat.le_of_ble_eq_true rfl) (Nat.le_of_ble_eq_true rfl) (c_Hx_at hnx 58 (Or.inl (rowW_of rfl (lt_of hnx (Nat.le_of_ble_eq_true rfl)))) x1 s) (fun y4 hy4 hs => ?_)
        cases hs
        exact x_ireturn dX0_number_61 rfl rfl (Nat.le_of_ble_eq_true rfl) (Nat.le_of_ble_eq_true rfl) ⟨rfl, rfl⟩
      refine ifEq_c hs (fun hR9 hz8 hs => ?_) (fun hR9 hz8 hs => ?_)
      · refine x_tableIn 2 hz8 (by unfold R; omega) dX0_number_15 (by decide) (by decide) rfl rfl ?_
        refine w_aload_n 0 dX0_number_62 rfl rfl ?_
        refine x_getR 0 3 (b := 59) dX0_number_63 (fxX0_22 rfl) rfl rfl (lt_of hnx (Nat.le_of_ble_eq_true rfl)) rfl ?_
        refine w_iload_n 1 dX0_number_66 rfl rfl ?_
        refine x_N_I M_X11_at [.ref 59, vi x1] [] hs rfl dX0_number_67 (lkX0_47 _ rfl) (Nat.le_of_ble_eq_true rfl) (Nat.le_of_ble_eq_true rfl) (Nat.le_of_ble_eq_true rfl) (Nat.le_of_ble_eq_true rfl) (c_Hx_at hnx 59 (Or.inl (rowW_of rfl (lt_of hnx (Nat.le_of_ble_eq_true rfl)))) x1 s) (fun y7 hy7 hs => ?_)
        cases hs
        exact x_ireturn dX0_number_70 rfl rfl (Nat.le_of_ble_eq_true rfl) (Nat.le_of_ble_eq_true rfl) ⟨rfl, rfl⟩
      refine ifEq_c hs (fun hR12 hz11 hs => ?_) (fun hR12 hz11 hs => ?_)
      · refine x_tableIn 3 hz11 (by unfold R; omega) dX0_number_15 (by decide) (by decide) rfl rfl ?_
        refine w_aload_n 0 dX0_number_71 rfl rfl ?_
        refine x_getR 0 4 (b := 60) dX0_number_72 (fxX0_25 rfl) rfl rfl (lt_of hnx (Nat.le_of_ble_eq_true rfl)) rfl ?_
        refine w_iload_n 1 dX0_number_75 rfl rfl ?_
        refine x_N_I M_X11_at [.ref 60, vi x1] [] hs rfl dX0_number_76 (lkX0_47 _ rfl) (Nat.le_of_ble_eq_true rfl) (Nat.le_of_ble_eq_true rfl) (Nat.le_of_ble_eq_true rfl) (Nat.le_of_ble_eq_true rfl) (c_Hx_at hnx 60 (Or.inl (rowW_of rfl (lt_of hnx (Nat.le_of_ble_eq_true rfl)))) x1 s) (fun y10 hy10 hs => ?_)
        cases hs
        exact x_ireturn dX0_number_79 rfl rfl (Nat.le_of_ble_eq_true rfl) (Nat.le_of_ble_eq_true rfl) ⟨rfl, rfl⟩
      refine x_tableOut hR12 dX0_number_15 (by omega) rfl ?_
      refine w_aload_n 0 dX0_number_80 rfl rfl ?_
      refine x_getR 0 5 (b := 61) dX0_number_81 (fxX0_28 rfl) rfl rfl (lt_of hnx (Nat.le_of_ble_eq_true rfl)) rfl ?_
      refine w_iload_n 1 dX0_number_84 rfl rfl ?_
      refine x_N_I M_X11_at [.ref 61, vi x1] [] hs rfl dX0_number_85 (lkX0_47 _ rfl) (Nat.le_of_ble_eq_true rfl) (Nat.le_of_ble_eq_true rfl) (Nat.le_of_ble_eq_true rfl) (Nat.le_of_ble_eq_true rfl) (c_Hx_at hnx 61 (Or.inl (rowW_of rfl (lt_of hnx (Nat.le_of_ble_eq_true rfl)))) x1 s) (fun y13 hy13 hs => ?_)
      cases hs
      exact x_ireturn dX0_number_88 rfl rfl (Nat.le_of_ble_eq_true rfl) (Nat.le_of_ble_eq_true rfl) ⟨rfl, rfl⟩
    · refine x_iconst dX0_number_12 ?_
      cases hs
      exact x_ireturn dX0_number_13 rfl rfl (Nat.le_of_ble_eq_true rfl) (Nat.le_of_ble_eq_true rfl) ⟨rfl, rfl⟩
set_option maxRecDepth 100000 in
theorem c_Hx_bridge {C : Cx} {nx : Nat} (hnx : 80 ≤ nx) (x1 : Int) (x2 : Int) (x3 : Int) (s : Sg) : ∀ o, Hx_bridge x1 x2 x3 s = some o → mm C M_X11_bridge 10 0 0 nx nx [.ref 0, vi x1, vi x2, vi x3] (hp nx s) (QT nx o) (XF) := by
  intro o hs
  unfold Hx_bridge at hs
  refine mm_of rfl rfl (Nat.le_of_ble_eq_true rfl) ?_
  show ww C M_X11_bridge 10 0 0 nx (QT nx o) (XF) nx 0 0 0 [(0, .ref 0), (1, vi x1), (2, vi x2), (3, vi x3)] [] (hp nx s)
  refine w_iload_n 1 dX11_bridge_0 rfl rfl ?_
  refine x_S_U M_X11_requireSide [vi x1] [] hs rfl dX11_bridge_1 (lkX11_211 _ rfl) (Nat.le_of_ble_eq_true rfl) (Nat.le_of_ble_eq_true rfl) (Nat.le_of_ble_eq_true rfl) (Nat.le_of_ble_eq_true rfl) (c_Hx_requireSide hnx x1 s) (fun y1 s2 hy1 hs => ?_)
  refine w_iload_n 3 dX11_bridge_4 rfl rfl ?_
  refine x_iconst dX11_bridge_5 ?_
  refine x_iconst dX11_bridge_6 ?_
  refine x_S_U M_X11_requireRange [vi x3, vi 0, vi 4] [] hs rfl dX11_bridge_7 (lkX11_190 _ rfl) (Nat.le_of_ble_eq_true rfl) (Nat.le_of_ble_eq_true rfl) (Nat.le_of_ble_eq_true rfl) (Nat.le_of_ble_eq_true rfl) (c_Hx_requireRange hnx x3 0 4 s2) (fun y3 s4 hy3 hs => ?_)
  refine w_aload_n 0 dX11_bridge_10 rfl rfl ?_
  refine x_getR 11 10 (b := 56) dX11_bridge_11 (fxX11_72 rfl) rfl rfl (lt_of hnx (Nat.le_of_ble_eq_true rfl)) rfl ?_
  refine w_aload_n 0 dX11_bridge_14 rfl rfl ?_
  refine x_getR 11 2 (b := 10) dX11_bridge_15 (fxX11_28 rfl) rfl rfl (lt_of hnx (Nat.le_of_ble_eq_true rfl)) rfl ?_
  refine x_getR 9 0 (b := 11) dX11_bridge_18 (fxX11_194 rfl) rfl rfl (lt_of hnx (Nat.le_of_ble_eq_true rfl)) rfl ?_
  refine w_iload_n 1 dX11_bridge_21 rfl rfl ?_
  refine x_V_V M_X0_find [.ref 11, vi x1] [] hs rfl dX11_bridge_22 (lkX11_220 _ rfl) (lt_of hnx (Nat.le_of_ble_eq_true rfl)) rfl rfl (Nat.le_of_ble_eq_true rfl) (Nat.le_of_ble_eq_true rfl) (Nat.le_of_ble_eq_true rfl) (Nat.le_of_ble_eq_true rfl) (c_Bl_find hnx 11 (Or.inl (rowW_of rfl (lt_of hnx (Nat.le_of_ble_eq_true rfl)))) x1 s4) (fun s6 hs6 hs => ?_)
  refine w_aload_n 0 dX11_bridge_25 rfl rfl ?_
  refine x_getR 11 10 (b := 56) dX11_bridge_26 (fxX11_72 rfl) rfl rfl (lt_of hnx (Nat.le_of_ble_eq_true rfl)) rfl ?_
  refine w_iload_n 2 dX11_bridge_29 rfl rfl ?_
  refine w_iload_n 3 dX11_bridge_30 rfl rfl ?_
  refine x_V_I M_X0_number [vi x2, vi x3] [] hs rfl dX11_bridge_31 (lkX11_239 _ rfl) (lt_of hnx (Nat.le_of_ble_eq_true rfl)) rfl rfl (Nat.le_of_ble_eq_true rfl) (Nat.le_of_ble_eq_true rfl) (Nat.le_of_ble_eq_true rfl) (Nat.le_of_ble_eq_true rfl) (c_Bl_number hnx x2 x3 s6) (fun y7 hy7 hs => ?_)
  cases hs
  exact x_ireturn dX11_bridge_34 rfl rfl (Nat.le_of_ble_eq_true rfl) (Nat.le_of_ble_eq_true rfl) ⟨_, rfl, rfl, rfl⟩
set_option maxRecDepth 100000 in
theorem q_Li_link_b75 {C : Cx} {nx : Nat} (hnx : 80 ≤ nx) {Qr : Option Value → Hp → Prop} {Qx : String → Hp → Prop}  (x3 : Int) (x4 : Int) (x5 : Int) (s : Sg) {o : ((Int × Sg) ⊕ (Sg))} (hs : Li_link_b75 x3 x4 x5 s = some o) (hb : ∀ σ : Int × Sg, o = .inl σ → ww C M_X7_link 2 0 0 nx (Qr) (Qx) nx 0 0 39 [(0, .ref 5), (3, vi x3), (4, vi x4), (5, vi σ.1)] [] (hp nx σ.2)) (he0 : ∀ ρ : Sg, o = .inr ρ → ww C M_X7_link 2 0 0 nx (Qr) (Qx) nx 0 0 81 [(0, .ref 5), (3, vi x3), (4, vi x4)] [] (hp nx ρ)) : ww C M_X7_link 2 0 0 nx (Qr) (Qx) nx 0 0 75 [(0, .ref 5), (3, vi x3), (4, vi x4), (5, vi x5)] [] (hp nx s) := by
  unfold Li_link_b75 at hs
  refine x_iinc (lv' := [(5, vi (x5 + 1)), (0, .ref 5), (3, vi x3), (4, vi x4)]) 3 dX7_link_75 rfl (Nat.le_of_ble_eq_true rfl) rfl ?_
  refine w_goto dX7_link_78 rfl ?_
  refine w_lv (lv' := [(0, .ref 5), (3, vi x3), (4, vi x4), (5, vi (x5 + 1))]) [1, 2, 3, 0] rfl ?_
  cases hs
  exact hb _ rfl
set_option maxRecDepth 100000 in
theorem q_Li_link_t39 {C : Cx} {nx : Nat} (hnx : 80 ≤ nx) {Qr : Option Value → Hp → Prop} {Qx : String → Hp → Prop}  (x3 : Int) (x4 : Int) (x5 : Int) (s : Sg) {o : ((Int × Sg) ⊕ (Sg))} (hs : Li_link_t39 x3 x4 x5 s = some o) (hb : ∀ σ : Int × Sg, o = .inl σ → ww C M_X7_link 2 0 0 nx (Qr) (Qx) nx 0 0 39 [(0, .ref 5), (3, vi x3), (4, vi x4), (5, vi σ.1)] [] (hp nx σ.2)) (he0 : ∀ ρ : Sg, o = .inr ρ → ww C M_X7_link 2 0 0 nx (Qr) (Qx) nx 0 0 81 [(0, .ref 5), (3, vi x3), (4, vi x4)] [] (hp nx ρ)) : ww C M_X7_link 2 0 0 nx (Qr) (Qx) nx 0 0 39 [(0, .ref 5), (3, vi x3), (4, vi x4), (5, vi x5)] [] (hp nx s) := by
  unfold Li_link_t39 at hs
  refine w_iload 3 dX7_link_39 rfl ?_
  refine w_aload_n 0 dX7_link_41 rfl rfl ?_
  refine x_getR 7 0 (b := 1) dX7_link_42 (fxX7_9 rfl) rfl rfl (lt_of hnx (Nat.le_of_ble_eq_true rfl)) rfl ?_
  refine x_getI 5 4 dX7_link_45 (fxX7_36 rfl) rfl rfl (lt_of hnx (Nat.le_of_ble_eq_true rfl)) ?_
  refine x_icmpge hs dX7_link_48 rfl (fun hs => ?_) (fun hs => ?_)
  · refine w_lv (lv' := [(0, .ref 5), (3, vi x3), (4, vi x4)]) [0, 1, 2] rfl ?_
    cases hs
    exact he0 _ rfl
  · refine w_aload_n 0 dX7_link_51 rfl rfl ?_
    refine x_getR 7 1 (b := 6) dX7_link_52 (fxX7_15 rfl) rfl rfl (lt_of hnx (Nat.le_of_ble_eq_true rfl)) rfl ?_
    refine w_iload 3 dX7_link_55 rfl ?_
    refine x_N_I M_X11_at [.ref 6, vi x5] [] hs rfl dX7_link_57 (lkX7_41 _ rfl) (Nat.le_of_ble_eq_true rfl) (Nat.le_of_ble_eq_true rfl) (Nat.le_of_ble_eq_true rfl) (Nat.le_of_ble_eq_true rfl) (c_Hx_at hnx 6 (Or.inl (rowW_of rfl (lt_of hnx (Nat.le_of_ble_eq_true rfl)))) x5 s) (fun y9 hy9 hs => ?_)
    refine w_iload 2 dX7_link_60 rfl ?_
    refine x_icmpne hs dX7_link_62 rfl (fun hs => ?_) (fun hs => ?_)
    · exact q_Li_link_b75 hnx x3 x4 x5 s hs hb he0
    · refine w_aload_n 0 dX7_link_65 rfl rfl ?_
      refine x_getR 7 1 (b := 6) dX7_link_66 (fxX7_15 rfl) rfl rfl (lt_of hnx (Nat.le_of_ble_eq_true rfl)) rfl ?_
      refine w_iload 3 dX7_link_69 rfl ?_
      refine w_iload_n 1 dX7_link_71 rfl rfl ?_
      refine x_N_V M_X11_set [.ref 6, vi x5, vi x3] [] hs rfl dX7_link_72 (lkX7_32 _ rfl) (Nat.le_of_ble_eq_true rfl) (Nat.le_of_ble_eq_true rfl) (Nat.le_of_ble_eq_true rfl) (Nat.le_of_ble_eq_true rfl) (c_Hx_set hnx 6 (rowW_of rfl (lt_of hnx (Nat.le_of_ble_eq_true rfl))) x5 x3 s) (fun s11 hs11 hs => ?_)
      exact q_Li_link_b75 hnx x3 x4 x5 s11 hs hb he0
set_option maxRecDepth 100000 in
theorem q_Li_link_l39 {C : Cx} {nx : Nat} (hnx : 80 ≤ nx) (x3 : Int) (x4 : Int) (x5 : Int) (s : Sg) {o : Sg} (hs : Li_link_l39 x3 x4 x5 s = some o) : ww C M_X7_link 2 0 0 nx (QV nx o) (XF) nx 0 0 39 [(0, .ref 5), (3, vi x3), (4, vi x4), (5, vi x5)] [] (hp nx s) := by
  unfold Li_link_l39 at hs
  refine bnd_e hs (fun s_12 hw hs => ?_)
  have hE : ww C M_X7_link 2 0 0 nx (QV nx o) (XF) nx 0 0 81 [(0, .ref 5), (3, vi x3), (4, vi x4)] [] (hp nx s_12) := by
    refine w_aload_n 0 dX7_link_81 rfl rfl ?_
    refine x_getR 7 3 (b := 8) dX7_link_82 (fxX7_22 rfl) rfl rfl (lt_of hnx (Nat.le_of_ble_eq_true rfl)) rfl ?_
    refine w_iload_n 1 dX7_link_85 rfl rfl ?_
    refine w_aload_n 0 dX7_link_86 rfl rfl ?_
    refine x_getR 7 3 (b := 8) dX7_link_87 (fxX7_22 rfl) rfl rfl (lt_of hnx (Nat.le_of_ble_eq_true rfl)) rfl ?_
    refine w_iload_n 1 dX7_link_90 rfl rfl ?_
    refine x_N_I M_X11_at [.ref 8, vi x3] [vi x3, .ref 8] hs rfl dX7_link_91 (lkX7_41 _ rfl) (Nat.le_of_ble_eq_true rfl) (Nat.le_of_ble_eq_true rfl) (Nat.le_of_ble_eq_true rfl) (Nat.le_of_ble_eq_true rfl) (c_Hx_at hnx 8 (Or.inl (rowW_of rfl (lt_of hnx (Nat.le_of_ble_eq_true rfl)))) x3 s_12) (fun y13 hy13 hs => ?_)
    refine w_aload_n 0 dX7_link_94 rfl rfl ?_
    refine x_getR 7 3 (b := 8) dX7_link_95 (fxX7_22 rfl) rfl rfl (lt_of hnx (Nat.le_of_ble_eq_true rfl)) rfl ?_
    refine w_iload 2 dX7_link_98 rfl ?_
    refine x_N_I M_X11_at [.ref 8, vi x4] [vi y13, vi x3, .ref 8] hs rfl dX7_link_100 (lkX7_41 _ rfl) (Nat.le_of_ble_eq_true rfl) (Nat.le_of_ble_eq_true rfl) (Nat.le_of_ble_eq_true rfl) (Nat.le_of_ble_eq_true rfl) (c_Hx_at hnx 8 (Or.inl (rowW_of rfl (lt_of hnx (Nat.le_of_ble_eq_true rfl)))) x4 s_12) (fun y14 hy14 hs => ?_)
    refine x_iadd dX7_link_103 ?_
    refine x_N_V M_X11_set [.ref 8, vi x3, vi (y13 + y14)] [] hs rfl dX7_link_104 (lkX7_32 _ rfl) (Nat.le_of_ble_eq_true rfl) (Nat.le_of_ble_eq_true rfl) (Nat.le_of_ble_eq_true rfl) (Nat.le_of_ble_eq_true rfl) (c_Hx_set hnx 8 (rowW_of rfl (lt_of hnx (Nat.le_of_ble_eq_true rfl))) x3 (y13 + y14) s_12) (fun s16 hs16 hs => ?_)
    refine w_aload_n 0 dX7_link_107 rfl rfl ?_
    refine x_getR 7 2 (b := 7) dX7_link_108 (fxX7_19 rfl) rfl rfl (lt_of hnx (Nat.le_of_ble_eq_true rfl)) rfl ?_
    refine w_iload_n 1 dX7_link_111 rfl rfl ?_
    refine w_aload_n 0 dX7_link_112 rfl rfl ?_
    refine x_getR 7 2 (b := 7) dX7_link_113 (fxX7_19 rfl) rfl rfl (lt_of hnx (Nat.le_of_ble_eq_true rfl)) rfl ?_
    refine w_iload_n 1 dX7_link_116 rfl rfl ?_
    refine x_N_I M_X11_at [.ref 7, vi x3] [vi x3, .ref 7] hs rfl dX7_link_117 (lkX7_41 _ rfl) (Nat.le_of_ble_eq_true rfl) (Nat.le_of_ble_eq_true rfl) (Nat.le_of_ble_eq_true rfl) (Nat.le_of_ble_eq_true rfl) (c_Hx_at hnx 7 (Or.inl (rowW_of rfl (lt_of hnx (Nat.le_of_ble_eq_true rfl)))) x3 s16) (fun y17 hy17 hs => ?_)
    refine w_aload_n 0 dX7_link_120 rfl rfl ?_
    refine x_getR 7 2 (b := 7) dX7_link_121 (fxX7_19 rfl) rfl rfl (lt_of hnx (Nat.le_of_ble_eq_true rfl)) rfl ?_
    refine w_iload 2 dX7_link_124 rfl ?_
    refine x_N_I M_X11_at [.ref 7, vi x4] [vi y17, vi x3, .ref 7] hs rfl dX7_link_126 (lkX7_41 _ rfl) (Nat.le_of_ble_eq_true rfl) (Nat.le_of_ble_eq_true rfl) (Nat.le_of_ble_eq_true rfl) (Nat.le_of_ble_eq_true rfl) (c_Hx_at hnx 7 (Or.inl (rowW_of rfl (lt_of hnx (Nat.le_of_ble_eq_true rfl)))) x4 s16) (fun y18 hy18 hs => ?_)
    refine x_ior dX7_link_129 ?_
    refine x_N_V M_X11_set [.ref 7, vi x3, vi (iorI y17 y18)] [] hs rfl dX7_link_130 (lkX7_32 _ rfl) (Nat.le_of_ble_eq_true rfl) (Nat.le_of_ble_eq_true rfl) (Nat.le_of_ble_eq_true rfl) (Nat.le_of_ble_eq_true rfl) (c_Hx_set hnx 7 (rowW_of rfl (lt_of hnx (Nat.le_of_ble_eq_true rfl))) x3 (iorI y17 y18) s16) (fun s20 hs20 hs => ?_)
    cases hs
    exact w_return rfl dX7_link_133 rfl (Nat.le_of_ble_eq_true rfl) (Nat.le_of_ble_eq_true rfl) ⟨rfl, rfl⟩
  refine whl_w (P := fun σ => ww C M_X7_link 2 0 0 nx (QV nx o) (XF) nx 0 0 39 [(0, .ref 5), (3, vi x3), (4, vi x4), (5, vi σ.1)] [] (hp nx σ.2)) (E := fun ρ => ρ = s_12) hw rfl ?_
  intro σ o' hs' hb' he'
  exact q_Li_link_t39 hnx x3 x4 σ.1 σ.2 hs' hb' (fun ρ e => by cases he' _ e; exact hE)
set_option maxRecDepth 100000 in
theorem c_Li_link {C : Cx} {nx : Nat} (hnx : 80 ≤ nx) (x1 : Int) (x2 : Int) (s : Sg) : ∀ o, Li_link x1 x2 s = some o → mm C M_X7_link 2 0 0 nx nx [.ref 5, vi x1, vi x2] (hp nx s) (QV nx o) (XF) := by
  intro o hs
  unfold Li_link at hs
  refine mm_of rfl rfl (Nat.le_of_ble_eq_true rfl) ?_
  show ww C M_X7_link 2 0 0 nx (QV nx o) (XF) nx 0 0 0 [(0, .ref 5), (1, vi x1), (2, vi x2)] [] (hp nx s)
  refine w_aload_n 0 dX7_link_0 rfl rfl ?_
  refine w_iload_n 1 dX7_link_1 rfl rfl ?_
  refine x_V_I M_X7_top [vi x1] [] hs rfl dX7_link_2 (lkX7_56 _ rfl) (lt_of hnx (Nat.le_of_ble_eq_true rfl)) rfl rfl (Nat.le_of_ble_eq_true rfl) (Nat.le_of_ble_eq_true rfl) (Nat.le_of_ble_eq_true rfl) (Nat.le_of_ble_eq_true rfl) (c_Li_top hnx x1 s) (fun y1 hy1 hs => ?_)
  refine w_aload_n 0 dX7_link_5 rfl rfl ?_
  refine w_iload_n 2 dX7_link_6 rfl rfl ?_
  refine x_V_I M_X7_top [vi x2] [vi y1] hs rfl dX7_link_7 (lkX7_56 _ rfl) (lt_of hnx (Nat.le_of_ble_eq_true rfl)) rfl rfl (Nat.le_of_ble_eq_true rfl) (Nat.le_of_ble_eq_true rfl) (Nat.le_of_ble_eq_true rfl) (Nat.le_of_ble_eq_true rfl) (c_Li_top hnx x2 s) (fun y2 hy2 hs => ?_)
  refine grd_e hs (fun hg3 hs => ?_)
  refine x_mmin hg3.1 hg3.2 dX7_link_10 (lkX7_60 rfl) (Nat.le_of_ble_eq_true rfl) (Nat.le_of_ble_eq_true rfl) (Nat.le_of_ble_eq_true rfl) (Nat.le_of_ble_eq_true rfl) ?_
  refine x_istore_n (fun x3_4 => [(3, vi x3_4), (0, .ref 5), (1, vi x1), (2, vi x2)]) hs dX7_link_13 rfl (Nat.le_of_ble_eq_true rfl) (fun _ => rfl) (fun x3_4 hs => ?_)
  refine w_aload_n 1 dX7_link_14 rfl rfl ?_
  refine w_iload_n 2 dX7_link_15 rfl rfl ?_
  refine x_V_I M_X7_top [vi x1] [] hs rfl dX7_link_16 (lkX7_56 _ rfl) (lt_of hnx (Nat.le_of_ble_eq_true rfl)) rfl rfl (Nat.le_of_ble_eq_true rfl) (Nat.le_of_ble_eq_true rfl) (Nat.le_of_ble_eq_true rfl) (Nat.le_of_ble_eq_true rfl) (c_Li_top hnx x1 s) (fun y5 hy5 hs => ?_)
  refine w_aload_n 1 dX7_link_19 rfl rfl ?_
  refine w_iload_n 3 dX7_link_20 rfl rfl ?_
  refine x_V_I M_X7_top [vi x2] [vi y5] hs rfl dX7_link_21 (lkX7_56 _ rfl) (lt_of hnx (Nat.le_of_ble_eq_true rfl)) rfl rfl (Nat.le_of_ble_eq_true rfl) (Nat.le_of_ble_eq_true rfl) (Nat.le_of_ble_eq_true rfl) (Nat.le_of_ble_eq_true rfl) (c_Li_top hnx x2 s) (fun y6 hy6 hs => ?_)
  refine grd_e hs (fun hg7 hs => ?_)
  refine x_mmax hg7.1 hg7.2 dX7_link_24 (lkX7_65 rfl) (Nat.le_of_ble_eq_true rfl) (Nat.le_of_ble_eq_true rfl) (Nat.le_of_ble_eq_true rfl) (Nat.le_of_ble_eq_true rfl) ?_
  refine x_istore (fun x4_8 => [(4, vi x4_8), (3, vi x3_4), (0, .ref 5), (1, vi x1), (2, vi x2)]) hs dX7_link_27 (Nat.le_of_ble_eq_true rfl) (fun _ => rfl) (fun x4_8 hs => ?_)
  refine w_iload_n 1 dX7_link_29 rfl rfl ?_
  refine w_iload 0 dX7_link_30 rfl ?_
  refine x_icmpne hs dX7_link_32 rfl (fun hs => ?_) (fun hs => ?_)
  · refine x_iconst dX7_link_36 ?_
    refine w_istore (lv' := [(5, vi 0), (4, vi x4_8), (3, vi x3_4), (0, .ref 5), (1, vi x1), (2, vi x2)]) dX7_link_37 (Nat.le_of_ble_eq_true rfl) rfl ?_
    refine w_lv (lv' := [(0, .ref 5), (3, vi x3_4), (4, vi x4_8), (5, vi 0)]) [3, 2, 1, 0] rfl ?_
    exact q_Li_link_l39 hnx x3_4 x4_8 0 s hs
  · cases hs
    exact w_return rfl dX7_link_35 rfl (Nat.le_of_ble_eq_true rfl) (Nat.le_of_ble_eq_true rfl) ⟨rfl, rfl⟩
set_option maxRecDepth 100000 in
theorem c_Li_reach {C : Cx} {nx : Nat} (hnx : 80 ≤ nx) (x1 : Int) (x2 : Int) (s : Sg) : ∀ o, Li_reach x1 x2 s = some o → mm C M_X7_reach 2 0 0 nx nx [.ref 5, vi x1, vi x2] (hp nx s) (QV nx o) (XF) := by
  intro o hs
  unfold Li_reach at hs
  refine mm_of rfl rfl (Nat.le_of_ble_eq_true rfl) ?_
  show ww C M_X7_reach 2 0 0 nx (QV nx o) (XF) nx 0 0 0 [(0, .ref 5), (1, vi x1), (2, vi x2)] [] (hp nx s)
  refine w_aload_n 0 dX7_reach_0 rfl rfl ?_
  refine w_iload_n 1 dX7_reach_1 rfl rfl ?_
  refine x_V_I M_X7_top [vi x1] [] hs rfl dX7_reach_2 (lkX7_56 _ rfl) (lt_of hnx (Nat.le_of_ble_eq_true rfl)) rfl rfl (Nat.le_of_ble_eq_true rfl) (Nat.le_of_ble_eq_true rfl) (Nat.le_of_ble_eq_true rfl) (Nat.le_of_ble_eq_true rfl) (c_Li_top hnx x1 s) (fun y1 hy1 hs => ?_)
  refine w_istore_n (lv' := [(3, vi y1), (0, .ref 5), (1, vi x1), (2, vi x2)]) dX7_reach_5 rfl (Nat.le_of_ble_eq_true rfl) rfl ?_
  refine w_aload_n 1 dX7_reach_6 rfl rfl ?_
  refine x_getR 7 2 (b := 7) dX7_reach_7 (fxX7_19 rfl) rfl rfl (lt_of hnx (Nat.le_of_ble_eq_true rfl)) rfl ?_
  refine w_iload_n 0 dX7_reach_10 rfl rfl ?_
  refine w_aload_n 1 dX7_reach_11 rfl rfl ?_
  refine x_getR 7 2 (b := 7) dX7_reach_12 (fxX7_19 rfl) rfl rfl (lt_of hnx (Nat.le_of_ble_eq_true rfl)) rfl ?_
  refine w_iload_n 0 dX7_reach_15 rfl rfl ?_
  refine x_N_I M_X11_at [.ref 7, vi y1] [vi y1, .ref 7] hs rfl dX7_reach_16 (lkX7_41 _ rfl) (Nat.le_of_ble_eq_true rfl) (Nat.le_of_ble_eq_true rfl) (Nat.le_of_ble_eq_true rfl) (Nat.le_of_ble_eq_true rfl) (c_Hx_at hnx 7 (Or.inl (rowW_of rfl (lt_of hnx (Nat.le_of_ble_eq_true rfl)))) y1 s) (fun y2 hy2 hs => ?_)
  refine w_iload_n 3 dX7_reach_19 rfl rfl ?_
  refine x_ior dX7_reach_20 ?_
  refine x_N_V M_X11_set [.ref 7, vi y1, vi (iorI y2 x2)] [] hs rfl dX7_reach_21 (lkX7_32 _ rfl) (Nat.le_of_ble_eq_true rfl) (Nat.le_of_ble_eq_true rfl) (Nat.le_of_ble_eq_true rfl) (Nat.le_of_ble_eq_true rfl) (c_Hx_set hnx 7 (rowW_of rfl (lt_of hnx (Nat.le_of_ble_eq_true rfl))) y1 (iorI y2 x2) s) (fun s4 hs4 hs => ?_)
  cases hs
  exact w_return rfl dX7_reach_24 rfl (Nat.le_of_ble_eq_true rfl) (Nat.le_of_ble_eq_true rfl) ⟨rfl, rfl⟩
set_option maxRecDepth 100000 in
theorem q_Bl_linkCounting_b68 {C : Cx} {nx : Nat} (hnx : 80 ≤ nx) {Qr : Option Value → Hp → Prop} {Qx : String → Hp → Prop}  (x2 : Int) (s : Sg) {o : ((Int × Sg) ⊕ (Sg))} (hs : Bl_linkCounting_b68 x2 s = some o) (hb : ∀ σ : Int × Sg, o = .inl σ → ww C M_X0_linkCounting 3 0 0 nx (Qr) (Qx) nx 0 0 2 [(0, .ref 56), (1, .ref 5), (2, vi σ.1)] [] (hp nx σ.2)) (he0 : ∀ ρ : Sg, o = .inr ρ → ww C M_X0_linkCounting 3 0 0 nx (Qr) (Qx) nx 0 0 74 [] [] (hp nx ρ)) : ww C M_X0_linkCounting 3 0 0 nx (Qr) (Qx) nx 0 0 68 [(0, .ref 56), (1, .ref 5), (2, vi x2)] [] (hp nx s) := by
  unfold Bl_linkCounting_b68 at hs
  refine x_iinc (lv' := [(2, vi (x2 + 1)), (0, .ref 56), (1, .ref 5)]) 2 dX0_linkCounting_68 rfl (Nat.le_of_ble_eq_true rfl) rfl ?_
  refine w_goto dX0_linkCounting_71 rfl ?_
  refine w_lv (lv' := [(0, .ref 56), (1, .ref 5), (2, vi (x2 + 1))]) [1, 2, 0] rfl ?_
  cases hs
  exact hb _ rfl
set_option maxRecDepth 100000 in
theorem q_Bl_linkCounting_t2 {C : Cx} {nx : Nat} (hnx : 80 ≤ nx) {Qr : Option Value → Hp → Prop} {Qx : String → Hp → Prop}  (x2 : Int) (s : Sg) {o : ((Int × Sg) ⊕ (Sg))} (hs : Bl_linkCounting_t2 x2 s = some o) (hb : ∀ σ : Int × Sg, o = .inl σ → ww C M_X0_linkCounting 3 0 0 nx (Qr) (Qx) nx 0 0 2 [(0, .ref 56), (1, .ref 5), (2, vi σ.1)] [] (hp nx σ.2)) (he0 : ∀ ρ : Sg, o = .inr ρ → ww C M_X0_linkCounting 3 0 0 nx (Qr) (Qx) nx 0 0 74 [] [] (hp nx ρ)) : ww C M_X0_linkCounting 3 0 0 nx (Qr) (Qx) nx 0 0 2 [(0, .ref 56), (1, .ref 5), (2, vi x2)] [] (hp nx s) := by
  unfold Bl_linkCounting_t2 at hs
  refine w_iload_n 2 dX0_linkCounting_2 rfl rfl ?_
  refine w_aload_n 0 dX0_linkCounting_3 rfl rfl ?_
  refine x_getI 0 7 dX0_linkCounting_4 (fxX0_34 rfl) rfl rfl (lt_of hnx (Nat.le_of_ble_eq_true rfl)) ?_
  refine x_icmpge hs dX0_linkCounting_7 rfl (fun hs => ?_) (fun hs => ?_)
  · refine w_lv (lv' := []) [] rfl ?_
    cases hs
    exact he0 _ rfl
  · refine w_aload_n 0 dX0_linkCounting_10 rfl rfl ?_
    refine x_getR 0 5 (b := 61) dX0_linkCounting_11 (fxX0_28 rfl) rfl rfl (lt_of hnx (Nat.le_of_ble_eq_true rfl)) rfl ?_
    refine w_iload_n 2 dX0_linkCounting_14 rfl rfl ?_
    refine x_N_I M_X11_at [.ref 61, vi x2] [] hs rfl dX0_linkCounting_15 (lkX0_47 _ rfl) (Nat.le_of_ble_eq_true rfl) (Nat.le_of_ble_eq_true rfl) (Nat.le_of_ble_eq_true rfl) (Nat.le_of_ble_eq_true rfl) (c_Hx_at hnx 61 (Or.inl (rowW_of rfl (lt_of hnx (Nat.le_of_ble_eq_true rfl)))) x2 s) (fun y1 hy1 hs => ?_)
    refine x_iconst dX0_linkCounting_18 ?_
    refine x_icmpne hs dX0_linkCounting_19 rfl (fun hs => ?_) (fun hs => ?_)
    · exact q_Bl_linkCounting_b68 hnx x2 s hs hb he0
    · refine w_aload_n 0 dX0_linkCounting_22 rfl rfl ?_
      refine x_getR 0 1 (b := 57) dX0_linkCounting_23 (fxX0_15 rfl) rfl rfl (lt_of hnx (Nat.le_of_ble_eq_true rfl)) rfl ?_
      refine w_iload_n 2 dX0_linkCounting_26 rfl rfl ?_
      refine x_N_I M_X11_at [.ref 57, vi x2] [] hs rfl dX0_linkCounting_27 (lkX0_47 _ rfl) (Nat.le_of_ble_eq_true rfl) (Nat.le_of_ble_eq_true rfl) (Nat.le_of_ble_eq_true rfl) (Nat.le_of_ble_eq_true rfl) (c_Hx_at hnx 57 (Or.inl (rowW_of rfl (lt_of hnx (Nat.le_of_ble_eq_true rfl)))) x2 s) (fun y2 hy2 hs => ?_)
      refine w_istore_n (lv' := [(3, vi y2), (0, .ref 56), (1, .ref 5), (2, vi x2)]) dX0_linkCounting_30 rfl (Nat.le_of_ble_eq_true rfl) rfl ?_
      refine w_aload_n 1 dX0_linkCounting_31 rfl rfl ?_
      refine x_getR 0 2 (b := 58) dX0_linkCounting_32 (fxX0_19 rfl) rfl rfl (lt_of hnx (Nat.le_of_ble_eq_true rfl)) rfl ?_
      refine w_iload_n 3 dX0_linkCounting_35 rfl rfl ?_
      refine x_N_I M_X11_at [.ref 58, vi x2] [] hs rfl dX0_linkCounting_36 (lkX0_47 _ rfl) (Nat.le_of_ble_eq_true rfl) (Nat.le_of_ble_eq_true rfl) (Nat.le_of_ble_eq_true rfl) (Nat.le_of_ble_eq_true rfl) (c_Hx_at hnx 58 (Or.inl (rowW_of rfl (lt_of hnx (Nat.le_of_ble_eq_true rfl)))) x2 s) (fun y3 hy3 hs => ?_)
      refine w_istore (lv' := [(4, vi y3), (3, vi y2), (0, .ref 56), (1, .ref 5), (2, vi x2)]) dX0_linkCounting_39 (Nat.le_of_ble_eq_true rfl) rfl ?_
      refine w_iload 0 dX0_linkCounting_41 rfl ?_
      refine x_iflt hs dX0_linkCounting_43 rfl (fun hs => ?_) (fun hs => ?_)
      · refine w_aload_n 3 dX0_linkCounting_56 rfl rfl ?_
        refine w_iload_n 1 dX0_linkCounting_57 rfl rfl ?_
        refine x_iconst dX0_linkCounting_58 ?_
        refine x_bipush dX0_linkCounting_59 (by decide) ?_
        refine w_iload 0 dX0_linkCounting_61 rfl ?_
        refine x_isub dX0_linkCounting_63 ?_
        refine x_ishl dX0_linkCounting_64 ?_
        refine x_V_V M_X7_reach [vi y2, vi (ishlI 1 ((-10) - y3))] [] hs rfl dX0_linkCounting_65 (lkX0_102 _ rfl) (lt_of hnx (Nat.le_of_ble_eq_true rfl)) rfl rfl (Nat.le_of_ble_eq_true rfl) (Nat.le_of_ble_eq_true rfl) (Nat.le_of_ble_eq_true rfl) (Nat.le_of_ble_eq_true rfl) (c_Li_reach hnx y2 (ishlI 1 ((-10) - y3)) s) (fun s5 hs5 hs => ?_)
        refine w_lv (lv' := [(0, .ref 56), (1, .ref 5), (2, vi x2)]) [2, 3, 4] rfl ?_
        exact q_Bl_linkCounting_b68 hnx x2 s5 hs hb he0
      · refine w_aload_n 3 dX0_linkCounting_46 rfl rfl ?_
        refine w_iload_n 1 dX0_linkCounting_47 rfl rfl ?_
        refine w_iload 0 dX0_linkCounting_48 rfl ?_
        refine x_V_V M_X7_link [vi y2, vi y3] [] hs rfl dX0_linkCounting_50 (lkX0_96 _ rfl) (lt_of hnx (Nat.le_of_ble_eq_true rfl)) rfl rfl (Nat.le_of_ble_eq_true rfl) (Nat.le_of_ble_eq_true rfl) (Nat.le_of_ble_eq_true rfl) (Nat.le_of_ble_eq_true rfl) (c_Li_link hnx y2 y3 s) (fun s7 hs7 hs => ?_)
        refine w_goto dX0_linkCounting_53 rfl ?_
        refine w_lv (lv' := [(0, .ref 56), (1, .ref 5), (2, vi x2)]) [2, 3, 4] rfl ?_
        exact q_Bl_linkCounting_b68 hnx x2 s7 hs hb he0
set_option maxRecDepth 100000 in
theorem q_Bl_linkCounting_l2 {C : Cx} {nx : Nat} (hnx : 80 ≤ nx) (x2 : Int) (s : Sg) {o : Sg} (hs : Bl_linkCounting_l2 x2 s = some o) : ww C M_X0_linkCounting 3 0 0 nx (QV nx o) (XF) nx 0 0 2 [(0, .ref 56), (1, .ref 5), (2, vi x2)] [] (hp nx s) := by
  unfold Bl_linkCounting_l2 at hs
  refine bnd_e hs (fun s_8 hw hs => ?_)
  have hE : ww C M_X0_linkCounting 3 0 0 nx (QV nx o) (XF) nx 0 0 74 [] [] (hp nx s_8) := by
    cases hs
    exact w_return rfl dX0_linkCounting_74 rfl (Nat.le_of_ble_eq_true rfl) (Nat.le_of_ble_eq_true rfl) ⟨rfl, rfl⟩
  refine whl_w (P := fun σ => ww C M_X0_linkCounting 3 0 0 nx (QV nx o) (XF) nx 0 0 2 [(0, .ref 56), (1, .ref 5), (2, vi σ.1)] [] (hp nx σ.2)) (E := fun ρ => ρ = s_8) hw rfl ?_
  intro σ o' hs' hb' he'
  exact q_Bl_linkCounting_t2 hnx σ.1 σ.2 hs' hb' (fun ρ e => by cases he' _ e; exact hE)
set_option maxRecDepth 100000 in
theorem c_Bl_linkCounting {C : Cx} {nx : Nat} (hnx : 80 ≤ nx)  (s : Sg) : ∀ o, Bl_linkCounting  s = some o → mm C M_X0_linkCounting 3 0 0 nx nx [.ref 56, .ref 5] (hp nx s) (QV nx o) (XF) := by
  intro o hs
  unfold Bl_linkCounting at hs
  refine mm_of rfl rfl (Nat.le_of_ble_eq_true rfl) ?_
  show ww C M_X0_linkCounting 3 0 0 nx (QV nx o) (XF) nx 0 0 0 [(0, .ref 56), (1, .ref 5)] [] (hp nx s)
  refine x_iconst dX0_linkCounting_0 ?_
  refine w_istore_n (lv' := [(2, vi 0), (0, .ref 56), (1, .ref 5)]) dX0_linkCounting_1 rfl (Nat.le_of_ble_eq_true rfl) rfl ?_
  refine w_lv (lv' := [(0, .ref 56), (1, .ref 5), (2, vi 0)]) [1, 2, 0] rfl ?_
  exact q_Bl_linkCounting_l2 hnx 0 s hs
set_option maxRecDepth 100000 in
theorem c_Hx_gatherChains {C : Cx} {nx : Nat} (hnx : 80 ≤ nx) (x1 : Int) (s : Sg) : ∀ o, Hx_gatherChains x1 s = some o → mm C M_X11_gatherChains 4 0 0 nx nx [.ref 0, vi x1] (hp nx s) (QV nx o) (XF) := by
  intro o hs
  unfold Hx_gatherChains at hs
  refine mm_of rfl rfl (Nat.le_of_ble_eq_true rfl) ?_
  show ww C M_X11_gatherChains 4 0 0 nx (QV nx o) (XF) nx 0 0 0 [(0, .ref 0), (1, vi x1)] [] (hp nx s)
  refine w_aload_n 0 dX11_gatherChains_0 rfl rfl ?_
  refine x_getR 11 1 (b := 5) dX11_gatherChains_1 (fxX11_21 rfl) rfl rfl (lt_of hnx (Nat.le_of_ble_eq_true rfl)) rfl ?_
  refine w_aload_n 0 dX11_gatherChains_4 rfl rfl ?_
  refine x_getR 11 2 (b := 10) dX11_gatherChains_5 (fxX11_28 rfl) rfl rfl (lt_of hnx (Nat.le_of_ble_eq_true rfl)) rfl ?_
  refine x_getR 9 0 (b := 11) dX11_gatherChains_8 (fxX11_194 rfl) rfl rfl (lt_of hnx (Nat.le_of_ble_eq_true rfl)) rfl ?_
  refine w_iload_n 1 dX11_gatherChains_11 rfl rfl ?_
  refine x_V_V M_X7_gather [.ref 11, vi x1] [] hs rfl dX11_gatherChains_12 (lkX11_198 _ rfl) (lt_of hnx (Nat.le_of_ble_eq_true rfl)) rfl rfl (Nat.le_of_ble_eq_true rfl) (Nat.le_of_ble_eq_true rfl) (Nat.le_of_ble_eq_true rfl) (Nat.le_of_ble_eq_true rfl) (c_Li_gather hnx 11 (Or.inl (rowW_of rfl (lt_of hnx (Nat.le_of_ble_eq_true rfl)))) x1 s) (fun s2 hs2 hs => ?_)
  refine w_aload_n 0 dX11_gatherChains_15 rfl rfl ?_
  refine x_getR 11 10 (b := 56) dX11_gatherChains_16 (fxX11_72 rfl) rfl rfl (lt_of hnx (Nat.le_of_ble_eq_true rfl)) rfl ?_
  refine w_aload_n 0 dX11_gatherChains_19 rfl rfl ?_
  refine x_getR 11 2 (b := 10) dX11_gatherChains_20 (fxX11_28 rfl) rfl rfl (lt_of hnx (Nat.le_of_ble_eq_true rfl)) rfl ?_
  refine x_getR 9 0 (b := 11) dX11_gatherChains_23 (fxX11_194 rfl) rfl rfl (lt_of hnx (Nat.le_of_ble_eq_true rfl)) rfl ?_
  refine w_iload_n 1 dX11_gatherChains_26 rfl rfl ?_
  refine x_V_V M_X0_find [.ref 11, vi x1] [] hs rfl dX11_gatherChains_27 (lkX11_220 _ rfl) (lt_of hnx (Nat.le_of_ble_eq_true rfl)) rfl rfl (Nat.le_of_ble_eq_true rfl) (Nat.le_of_ble_eq_true rfl) (Nat.le_of_ble_eq_true rfl) (Nat.le_of_ble_eq_true rfl) (c_Bl_find hnx 11 (Or.inl (rowW_of rfl (lt_of hnx (Nat.le_of_ble_eq_true rfl)))) x1 s2) (fun s4 hs4 hs => ?_)
  refine w_aload_n 0 dX11_gatherChains_30 rfl rfl ?_
  refine x_getR 11 10 (b := 56) dX11_gatherChains_31 (fxX11_72 rfl) rfl rfl (lt_of hnx (Nat.le_of_ble_eq_true rfl)) rfl ?_
  refine w_aload_n 0 dX11_gatherChains_34 rfl rfl ?_
  refine x_getR 11 1 (b := 5) dX11_gatherChains_35 (fxX11_21 rfl) rfl rfl (lt_of hnx (Nat.le_of_ble_eq_true rfl)) rfl ?_
  refine x_V_V M_X0_linkCounting [.ref 5] [] hs rfl dX11_gatherChains_38 (lkX11_369 _ rfl) (lt_of hnx (Nat.le_of_ble_eq_true rfl)) rfl rfl (Nat.le_of_ble_eq_true rfl) (Nat.le_of_ble_eq_true rfl) (Nat.le_of_ble_eq_true rfl) (Nat.le_of_ble_eq_true rfl) (c_Bl_linkCounting hnx s4) (fun s6 hs6 hs => ?_)
  cases hs
  exact w_return rfl dX11_gatherChains_41 rfl (Nat.le_of_ble_eq_true rfl) (Nat.le_of_ble_eq_true rfl) ⟨rfl, rfl⟩
set_option maxRecDepth 100000 in
theorem q_Bl_countingIn_b47 {C : Cx} {nx : Nat} (hnx : 80 ≤ nx) {Qr : Option Value → Hp → Prop} {Qx : String → Hp → Prop}  (x2 : Int) (x3 : Int) (x4 : Int) (s : Sg) {o : ((Int × Int) ⊕ (Int))} (hs : Bl_countingIn_b47 x2 x3 x4 s = some o) (hb : ∀ σ : Int × Int, o = .inl σ → ww C M_X0_countingIn 2 0 0 nx (Qr) (Qx) nx 0 0 5 [(0, .ref 56), (1, .ref 5), (2, vi x2), (3, vi σ.1), (4, vi σ.2)] [] (hp nx s)) (he0 : ∀ ρ : Int, o = .inr ρ → ww C M_X0_countingIn 2 0 0 nx (Qr) (Qx) nx 0 0 53 [(3, vi ρ)] [] (hp nx s)) : ww C M_X0_countingIn 2 0 0 nx (Qr) (Qx) nx 0 0 47 [(0, .ref 56), (1, .ref 5), (2, vi x2), (3, vi x3), (4, vi x4)] [] (hp nx s) := by
  unfold Bl_countingIn_b47 at hs
  refine x_iinc (lv' := [(4, vi (x4 + 1)), (0, .ref 56), (1, .ref 5), (2, vi x2), (3, vi x3)]) 4 dX0_countingIn_47 rfl (Nat.le_of_ble_eq_true rfl) rfl ?_
  refine w_goto dX0_countingIn_50 rfl ?_
  refine w_lv (lv' := [(0, .ref 56), (1, .ref 5), (2, vi x2), (3, vi x3), (4, vi (x4 + 1))]) [1, 2, 3, 4, 0] rfl ?_
  cases hs
  exact hb _ rfl
set_option maxRecDepth 100000 in
theorem q_Bl_countingIn_t5 {C : Cx} {nx : Nat} (hnx : 80 ≤ nx) {Qr : Option Value → Hp → Prop} {Qx : String → Hp → Prop}  (x2 : Int) (x3 : Int) (x4 : Int) (s : Sg) {o : ((Int × Int) ⊕ (Int))} (hs : Bl_countingIn_t5 x2 x3 x4 s = some o) (hb : ∀ σ : Int × Int, o = .inl σ → ww C M_X0_countingIn 2 0 0 nx (Qr) (Qx) nx 0 0 5 [(0, .ref 56), (1, .ref 5), (2, vi x2), (3, vi σ.1), (4, vi σ.2)] [] (hp nx s)) (he0 : ∀ ρ : Int, o = .inr ρ → ww C M_X0_countingIn 2 0 0 nx (Qr) (Qx) nx 0 0 53 [(3, vi ρ)] [] (hp nx s)) : ww C M_X0_countingIn 2 0 0 nx (Qr) (Qx) nx 0 0 5 [(0, .ref 56), (1, .ref 5), (2, vi x2), (3, vi x3), (4, vi x4)] [] (hp nx s) := by
  unfold Bl_countingIn_t5 at hs
  refine w_iload 4 dX0_countingIn_5 rfl ?_
  refine w_aload_n 0 dX0_countingIn_7 rfl rfl ?_
  refine x_getI 0 7 dX0_countingIn_8 (fxX0_34 rfl) rfl rfl (lt_of hnx (Nat.le_of_ble_eq_true rfl)) ?_
  refine x_icmpge hs dX0_countingIn_11 rfl (fun hs => ?_) (fun hs => ?_)
  · refine w_lv (lv' := [(3, vi x3)]) [3] rfl ?_
    cases hs
    exact he0 _ rfl
  · refine w_aload_n 0 dX0_countingIn_14 rfl rfl ?_
    refine x_getR 0 5 (b := 61) dX0_countingIn_15 (fxX0_28 rfl) rfl rfl (lt_of hnx (Nat.le_of_ble_eq_true rfl)) rfl ?_
    refine w_iload 4 dX0_countingIn_18 rfl ?_
    refine x_N_I M_X11_at [.ref 61, vi x4] [] hs rfl dX0_countingIn_20 (lkX0_47 _ rfl) (Nat.le_of_ble_eq_true rfl) (Nat.le_of_ble_eq_true rfl) (Nat.le_of_ble_eq_true rfl) (Nat.le_of_ble_eq_true rfl) (c_Hx_at hnx 61 (Or.inl (rowW_of rfl (lt_of hnx (Nat.le_of_ble_eq_true rfl)))) x4 s) (fun y1 hy1 hs => ?_)
    refine x_iconst dX0_countingIn_23 ?_
    refine x_icmpne hs dX0_countingIn_24 rfl (fun hs => ?_) (fun hs => ?_)
    · exact q_Bl_countingIn_b47 hnx x2 x3 x4 s hs hb he0
    · refine w_aload_n 1 dX0_countingIn_27 rfl rfl ?_
      refine w_aload_n 0 dX0_countingIn_28 rfl rfl ?_
      refine x_getR 0 1 (b := 57) dX0_countingIn_29 (fxX0_15 rfl) rfl rfl (lt_of hnx (Nat.le_of_ble_eq_true rfl)) rfl ?_
      refine w_iload 4 dX0_countingIn_32 rfl ?_
      refine x_N_I M_X11_at [.ref 57, vi x4] [.ref 5] hs rfl dX0_countingIn_34 (lkX0_47 _ rfl) (Nat.le_of_ble_eq_true rfl) (Nat.le_of_ble_eq_true rfl) (Nat.le_of_ble_eq_true rfl) (Nat.le_of_ble_eq_true rfl) (c_Hx_at hnx 57 (Or.inl (rowW_of rfl (lt_of hnx (Nat.le_of_ble_eq_true rfl)))) x4 s) (fun y2 hy2 hs => ?_)
      refine x_V_I M_X7_top [vi y2] [] hs rfl dX0_countingIn_37 (lkX0_105 _ rfl) (lt_of hnx (Nat.le_of_ble_eq_true rfl)) rfl rfl (Nat.le_of_ble_eq_true rfl) (Nat.le_of_ble_eq_true rfl) (Nat.le_of_ble_eq_true rfl) (Nat.le_of_ble_eq_true rfl) (c_Li_top hnx y2 s) (fun y3 hy3 hs => ?_)
      refine w_iload_n 2 dX0_countingIn_40 rfl rfl ?_
      refine x_icmpne hs dX0_countingIn_41 rfl (fun hs => ?_) (fun hs => ?_)
      · exact q_Bl_countingIn_b47 hnx x2 x3 x4 s hs hb he0
      · refine x_iinc (lv' := [(3, vi (x3 + 1)), (0, .ref 56), (1, .ref 5), (2, vi x2), (4, vi x4)]) 3 dX0_countingIn_44 rfl (Nat.le_of_ble_eq_true rfl) rfl ?_
        refine w_lv (lv' := [(0, .ref 56), (1, .ref 5), (2, vi x2), (3, vi (x3 + 1)), (4, vi x4)]) [1, 2, 3, 0, 4] rfl ?_
        exact q_Bl_countingIn_b47 hnx x2 (x3 + 1) x4 s hs hb he0
set_option maxRecDepth 100000 in
theorem q_Bl_countingIn_l5 {C : Cx} {nx : Nat} (hnx : 80 ≤ nx) (x2 : Int) (x3 : Int) (x4 : Int) (s : Sg) {o : Int} (hs : Bl_countingIn_l5 x2 x3 x4 s = some o) : ww C M_X0_countingIn 2 0 0 nx (QI nx s o) (XF) nx 0 0 5 [(0, .ref 56), (1, .ref 5), (2, vi x2), (3, vi x3), (4, vi x4)] [] (hp nx s) := by
  unfold Bl_countingIn_l5 at hs
  refine bnd_e hs (fun x3_4 hw hs => ?_)
  have hE : ww C M_X0_countingIn 2 0 0 nx (QI nx s o) (XF) nx 0 0 53 [(3, vi x3_4)] [] (hp nx s) := by
    refine w_iload_n 0 dX0_countingIn_53 rfl rfl ?_
    cases hs
    exact x_ireturn dX0_countingIn_54 rfl rfl (Nat.le_of_ble_eq_true rfl) (Nat.le_of_ble_eq_true rfl) ⟨rfl, rfl⟩
  refine whl_w (P := fun σ => ww C M_X0_countingIn 2 0 0 nx (QI nx s o) (XF) nx 0 0 5 [(0, .ref 56), (1, .ref 5), (2, vi x2), (3, vi σ.1), (4, vi σ.2)] [] (hp nx s)) (E := fun ρ => ρ = x3_4) hw rfl ?_
  intro σ o' hs' hb' he'
  exact q_Bl_countingIn_t5 hnx x2 σ.1 σ.2 s hs' hb' (fun ρ e => by cases he' _ e; exact hE)
set_option maxRecDepth 100000 in
theorem c_Bl_countingIn {C : Cx} {nx : Nat} (hnx : 80 ≤ nx) (x2 : Int) (s : Sg) : ∀ o, Bl_countingIn x2 s = some o → mm C M_X0_countingIn 2 0 0 nx nx [.ref 56, .ref 5, vi x2] (hp nx s) (QI nx s o) (XF) := by
  intro o hs
  unfold Bl_countingIn at hs
  refine mm_of rfl rfl (Nat.le_of_ble_eq_true rfl) ?_
  show ww C M_X0_countingIn 2 0 0 nx (QI nx s o) (XF) nx 0 0 0 [(0, .ref 56), (1, .ref 5), (2, vi x2)] [] (hp nx s)
  refine x_iconst dX0_countingIn_0 ?_
  refine w_istore_n (lv' := [(3, vi 0), (0, .ref 56), (1, .ref 5), (2, vi x2)]) dX0_countingIn_1 rfl (Nat.le_of_ble_eq_true rfl) rfl ?_
  refine x_iconst dX0_countingIn_2 ?_
  refine w_istore (lv' := [(4, vi 0), (3, vi 0), (0, .ref 56), (1, .ref 5), (2, vi x2)]) dX0_countingIn_3 (Nat.le_of_ble_eq_true rfl) rfl ?_
  refine w_lv (lv' := [(0, .ref 56), (1, .ref 5), (2, vi x2), (3, vi 0), (4, vi 0)]) [2, 3, 4, 1, 0] rfl ?_
  exact q_Bl_countingIn_l5 hnx x2 0 0 s hs
set_option maxRecDepth 100000 in
theorem c_Hx_chain {C : Cx} {nx : Nat} (hnx : 80 ≤ nx) (x1 : Int) (x2 : Int) (s : Sg) : ∀ o, Hx_chain x1 x2 s = some o → mm C M_X11_chain 10 0 0 nx nx [.ref 0, vi x1, vi x2] (hp nx s) (QT nx o) (XF) := by
  intro o hs
  unfold Hx_chain at hs
  refine mm_of rfl rfl (Nat.le_of_ble_eq_true rfl) ?_
  show ww C M_X11_chain 10 0 0 nx (QT nx o) (XF) nx 0 0 0 [(0, .ref 0), (1, vi x1), (2, vi x2)] [] (hp nx s)
  refine w_aload_n 0 dX11_chain_0 rfl rfl ?_
  refine w_iload_n 1 dX11_chain_1 rfl rfl ?_
  refine x_V_U M_X11_requireCell [vi x1] [] hs rfl dX11_chain_2 (lkX11_180 _ rfl) (lt_of hnx (Nat.le_of_ble_eq_true rfl)) rfl rfl (Nat.le_of_ble_eq_true rfl) (Nat.le_of_ble_eq_true rfl) (Nat.le_of_ble_eq_true rfl) (Nat.le_of_ble_eq_true rfl) (c_Hx_requireCell hnx x1 s) (fun y1 s2 hy1 hs => ?_)
  refine w_iload_n 2 dX11_chain_5 rfl rfl ?_
  refine x_iconst dX11_chain_6 ?_
  refine x_iconst dX11_chain_7 ?_
  refine x_S_U M_X11_requireRange [vi x2, vi 0, vi 3] [] hs rfl dX11_chain_8 (lkX11_190 _ rfl) (Nat.le_of_ble_eq_true rfl) (Nat.le_of_ble_eq_true rfl) (Nat.le_of_ble_eq_true rfl) (Nat.le_of_ble_eq_true rfl) (c_Hx_requireRange hnx x2 0 3 s2) (fun y3 s4 hy3 hs => ?_)
  refine w_aload_n 0 dX11_chain_11 rfl rfl ?_
  refine x_getR 11 2 (b := 10) dX11_chain_12 (fxX11_28 rfl) rfl rfl (lt_of hnx (Nat.le_of_ble_eq_true rfl)) rfl ?_
  refine w_iload_n 1 dX11_chain_15 rfl rfl ?_
  refine x_V_I M_X9_stone [vi x1] [] hs rfl dX11_chain_16 (lkX11_183 _ rfl) (lt_of hnx (Nat.le_of_ble_eq_true rfl)) rfl rfl (Nat.le_of_ble_eq_true rfl) (Nat.le_of_ble_eq_true rfl) (Nat.le_of_ble_eq_true rfl) (Nat.le_of_ble_eq_true rfl) (c_Po_stone hnx 10 (show 10 ∈ posL by decide) x1 s4) (fun y5 hy5 hs => ?_)
  refine w_istore_n (lv' := [(3, vi y5), (0, .ref 0), (1, vi x1), (2, vi x2)]) dX11_chain_19 rfl (Nat.le_of_ble_eq_true rfl) rfl ?_
  refine w_iload_n 0 dX11_chain_20 rfl rfl ?_
  refine x_iconst dX11_chain_21 ?_
  refine x_icmpne hs dX11_chain_22 rfl (fun hs => ?_) (fun hs => ?_)
  · refine w_aload_n 1 dX11_chain_27 rfl rfl ?_
    refine w_iload_n 0 dX11_chain_28 rfl rfl ?_
    refine x_V_V M_X11_gatherChains [vi y5] [] hs rfl dX11_chain_29 (lkX11_240 _ rfl) (lt_of hnx (Nat.le_of_ble_eq_true rfl)) rfl rfl (Nat.le_of_ble_eq_true rfl) (Nat.le_of_ble_eq_true rfl) (Nat.le_of_ble_eq_true rfl) (Nat.le_of_ble_eq_true rfl) (c_Hx_gatherChains hnx y5 s4) (fun s7 hs7 hs => ?_)
    refine w_iload_n 3 dX11_chain_32 rfl rfl ?_
    refine x_iconst dX11_chain_33 ?_
    refine x_icmpne hs dX11_chain_34 rfl (fun hs => ?_) (fun hs => ?_)
    · refine w_aload_n 1 dX11_chain_59 rfl rfl ?_
      refine x_getR 11 1 (b := 5) dX11_chain_60 (fxX11_21 rfl) rfl rfl (lt_of hnx (Nat.le_of_ble_eq_true rfl)) rfl ?_
      refine w_iload_n 2 dX11_chain_63 rfl rfl ?_
      refine w_iload_n 3 dX11_chain_64 rfl rfl ?_
      refine x_V_I M_X7_number [vi x1, vi x2] [] hs rfl dX11_chain_65 (lkX11_208 _ rfl) (lt_of hnx (Nat.le_of_ble_eq_true rfl)) rfl rfl (Nat.le_of_ble_eq_true rfl) (Nat.le_of_ble_eq_true rfl) (Nat.le_of_ble_eq_true rfl) (Nat.le_of_ble_eq_true rfl) (c_Li_number hnx x1 x2 s7) (fun y8 hy8 hs => ?_)
      cases hs
      exact x_ireturn dX11_chain_68 rfl rfl (Nat.le_of_ble_eq_true rfl) (Nat.le_of_ble_eq_true rfl) ⟨_, rfl, rfl, rfl⟩
    · refine w_aload_n 1 dX11_chain_37 rfl rfl ?_
      refine x_getR 11 10 (b := 56) dX11_chain_38 (fxX11_72 rfl) rfl rfl (lt_of hnx (Nat.le_of_ble_eq_true rfl)) rfl ?_
      refine w_aload_n 1 dX11_chain_41 rfl rfl ?_
      refine x_getR 11 1 (b := 5) dX11_chain_42 (fxX11_21 rfl) rfl rfl (lt_of hnx (Nat.le_of_ble_eq_true rfl)) rfl ?_
      refine w_aload_n 1 dX11_chain_45 rfl rfl ?_
      refine x_getR 11 1 (b := 5) dX11_chain_46 (fxX11_21 rfl) rfl rfl (lt_of hnx (Nat.le_of_ble_eq_true rfl)) rfl ?_
      refine w_iload_n 2 dX11_chain_49 rfl rfl ?_
      refine x_V_I M_X7_top [vi x1] [.ref 5, .ref 56] hs rfl dX11_chain_50 (lkX11_202 _ rfl) (lt_of hnx (Nat.le_of_ble_eq_true rfl)) rfl rfl (Nat.le_of_ble_eq_true rfl) (Nat.le_of_ble_eq_true rfl) (Nat.le_of_ble_eq_true rfl) (Nat.le_of_ble_eq_true rfl) (c_Li_top hnx x1 s7) (fun y9 hy9 hs => ?_)
      refine x_V_I M_X0_countingIn [.ref 5, vi y9] [] hs rfl dX11_chain_53 (lkX11_243 _ rfl) (lt_of hnx (Nat.le_of_ble_eq_true rfl)) rfl rfl (Nat.le_of_ble_eq_true rfl) (Nat.le_of_ble_eq_true rfl) (Nat.le_of_ble_eq_true rfl) (Nat.le_of_ble_eq_true rfl) (c_Bl_countingIn hnx y9 s7) (fun y10 hy10 hs => ?_)
      refine w_goto dX11_chain_56 rfl ?_
      cases hs
      exact x_ireturn dX11_chain_68 rfl rfl (Nat.le_of_ble_eq_true rfl) (Nat.le_of_ble_eq_true rfl) ⟨_, rfl, rfl, rfl⟩
  · refine x_iconst dX11_chain_25 ?_
    cases hs
    exact x_ireturn dX11_chain_26 rfl rfl (Nat.le_of_ble_eq_true rfl) (Nat.le_of_ble_eq_true rfl) ⟨_, rfl, rfl, rfl⟩
set_option maxRecDepth 100000 in
theorem c_Hx_chains {C : Cx} {nx : Nat} (hnx : 80 ≤ nx) (x1 : Int) (s : Sg) : ∀ o, Hx_chains x1 s = some o → mm C M_X11_chains 10 0 0 nx nx [.ref 0, vi x1] (hp nx s) (QT nx o) (XF) := by
  intro o hs
  unfold Hx_chains at hs
  refine mm_of rfl rfl (Nat.le_of_ble_eq_true rfl) ?_
  show ww C M_X11_chains 10 0 0 nx (QT nx o) (XF) nx 0 0 0 [(0, .ref 0), (1, vi x1)] [] (hp nx s)
  refine w_iload_n 1 dX11_chains_0 rfl rfl ?_
  refine x_S_U M_X11_requireSide [vi x1] [] hs rfl dX11_chains_1 (lkX11_211 _ rfl) (Nat.le_of_ble_eq_true rfl) (Nat.le_of_ble_eq_true rfl) (Nat.le_of_ble_eq_true rfl) (Nat.le_of_ble_eq_true rfl) (c_Hx_requireSide hnx x1 s) (fun y1 s2 hy1 hs => ?_)
  refine w_aload_n 0 dX11_chains_4 rfl rfl ?_
  refine w_iload_n 1 dX11_chains_5 rfl rfl ?_
  refine x_V_V M_X11_gatherChains [vi x1] [] hs rfl dX11_chains_6 (lkX11_240 _ rfl) (lt_of hnx (Nat.le_of_ble_eq_true rfl)) rfl rfl (Nat.le_of_ble_eq_true rfl) (Nat.le_of_ble_eq_true rfl) (Nat.le_of_ble_eq_true rfl) (Nat.le_of_ble_eq_true rfl) (c_Hx_gatherChains hnx x1 s2) (fun s4 hs4 hs => ?_)
  refine w_aload_n 0 dX11_chains_9 rfl rfl ?_
  refine x_getR 11 1 (b := 5) dX11_chains_10 (fxX11_21 rfl) rfl rfl (lt_of hnx (Nat.le_of_ble_eq_true rfl)) rfl ?_
  refine x_V_I M_X7_parts [] [] hs rfl dX11_chains_13 (lkX11_214 _ rfl) (lt_of hnx (Nat.le_of_ble_eq_true rfl)) rfl rfl (Nat.le_of_ble_eq_true rfl) (Nat.le_of_ble_eq_true rfl) (Nat.le_of_ble_eq_true rfl) (Nat.le_of_ble_eq_true rfl) (c_Li_parts hnx s4) (fun y5 hy5 hs => ?_)
  cases hs
  exact x_ireturn dX11_chains_16 rfl rfl (Nat.le_of_ble_eq_true rfl) (Nat.le_of_ble_eq_true rfl) ⟨_, rfl, rfl, rfl⟩
set_option maxRecDepth 100000 in
theorem c_Hx_isSafe {C : Cx} {nx : Nat} (hnx : 80 ≤ nx) (x1 : Int) (s : Sg) : ∀ o, Hx_isSafe x1 s = some o → mm C M_X11_isSafe 10 0 0 nx nx [.ref 0, vi x1] (hp nx s) (QT nx o) (XF) := by
  intro o hs
  unfold Hx_isSafe at hs
  refine mm_of rfl rfl (Nat.le_of_ble_eq_true rfl) ?_
  show ww C M_X11_isSafe 10 0 0 nx (QT nx o) (XF) nx 0 0 0 [(0, .ref 0), (1, vi x1)] [] (hp nx s)
  refine w_iload_n 1 dX11_isSafe_0 rfl rfl ?_
  refine x_S_U M_X11_requireSide [vi x1] [] hs rfl dX11_isSafe_1 (lkX11_211 _ rfl) (Nat.le_of_ble_eq_true rfl) (Nat.le_of_ble_eq_true rfl) (Nat.le_of_ble_eq_true rfl) (Nat.le_of_ble_eq_true rfl) (c_Hx_requireSide hnx x1 s) (fun y1 s2 hy1 hs => ?_)
  refine w_aload_n 0 dX11_isSafe_4 rfl rfl ?_
  refine w_iload_n 1 dX11_isSafe_5 rfl rfl ?_
  refine x_V_V M_X11_gatherChains [vi x1] [] hs rfl dX11_isSafe_6 (lkX11_240 _ rfl) (lt_of hnx (Nat.le_of_ble_eq_true rfl)) rfl rfl (Nat.le_of_ble_eq_true rfl) (Nat.le_of_ble_eq_true rfl) (Nat.le_of_ble_eq_true rfl) (Nat.le_of_ble_eq_true rfl) (c_Hx_gatherChains hnx x1 s2) (fun s4 hs4 hs => ?_)
  refine w_aload_n 0 dX11_isSafe_9 rfl rfl ?_
  refine x_getR 11 1 (b := 5) dX11_isSafe_10 (fxX11_21 rfl) rfl rfl (lt_of hnx (Nat.le_of_ble_eq_true rfl)) rfl ?_
  refine x_V_I M_X7_joined [] [] hs rfl dX11_isSafe_13 (lkX11_247 _ rfl) (lt_of hnx (Nat.le_of_ble_eq_true rfl)) rfl rfl (Nat.le_of_ble_eq_true rfl) (Nat.le_of_ble_eq_true rfl) (Nat.le_of_ble_eq_true rfl) (Nat.le_of_ble_eq_true rfl) (c_Li_joined hnx s4) (fun y5 hy5 hs => ?_)
  refine grd_e hs (fun hg6 hs => ?_)
  cases hs
  exact x_zreturn hg6 dX11_isSafe_16 rfl rfl (Nat.le_of_ble_eq_true rfl) (Nat.le_of_ble_eq_true rfl) ⟨_, rfl, rfl, rfl⟩
set_option maxRecDepth 100000 in
theorem q_Bl_otherCarrier_b64 {C : Cx} {nx : Nat} (hnx : 80 ≤ nx) {Qr : Option Value → Hp → Prop} {Qx : String → Hp → Prop}  (x1 : Int) (x2 : Int) (s : Sg) {o : ((Int) ⊕ ((Int × Int) ⊕ (Unit)))} (hs : Bl_otherCarrier_b64 x1 x2 s = some o) (hb : ∀ σ : Int, o = .inl σ → ww C M_X0_otherCarrier 1 0 0 nx (Qr) (Qx) nx 0 0 2 [(0, .ref 56), (1, vi x1), (2, vi σ)] [] (hp nx s)) (he0 : ∀ ρ : Int × Int, o = .inr (.inl ρ) → ww C M_X0_otherCarrier 1 0 0 nx (Qr) (Qx) nx 0 0 52 [(1, vi x1), (3, vi ρ.1), (4, vi ρ.2)] [] (hp nx s)) (he1 : ∀ ρ : Unit, o = .inr (.inr ρ) → ww C M_X0_otherCarrier 1 0 0 nx (Qr) (Qx) nx 0 0 70 [] [] (hp nx s)) : ww C M_X0_otherCarrier 1 0 0 nx (Qr) (Qx) nx 0 0 64 [(0, .ref 56), (1, vi x1), (2, vi x2)] [] (hp nx s) := by
  unfold Bl_otherCarrier_b64 at hs
  refine x_iinc (lv' := [(2, vi (x2 + 1)), (0, .ref 56), (1, vi x1)]) 2 dX0_otherCarrier_64 rfl (Nat.le_of_ble_eq_true rfl) rfl ?_
  refine w_goto dX0_otherCarrier_67 rfl ?_
  refine w_lv (lv' := [(0, .ref 56), (1, vi x1), (2, vi (x2 + 1))]) [1, 2, 0] rfl ?_
  cases hs
  exact hb _ rfl
set_option maxRecDepth 100000 in
theorem q_Bl_otherCarrier_t2 {C : Cx} {nx : Nat} (hnx : 80 ≤ nx) {Qr : Option Value → Hp → Prop} {Qx : String → Hp → Prop}  (x1 : Int) (x2 : Int) (s : Sg) {o : ((Int) ⊕ ((Int × Int) ⊕ (Unit)))} (hs : Bl_otherCarrier_t2 x1 x2 s = some o) (hb : ∀ σ : Int, o = .inl σ → ww C M_X0_otherCarrier 1 0 0 nx (Qr) (Qx) nx 0 0 2 [(0, .ref 56), (1, vi x1), (2, vi σ)] [] (hp nx s)) (he0 : ∀ ρ : Int × Int, o = .inr (.inl ρ) → ww C M_X0_otherCarrier 1 0 0 nx (Qr) (Qx) nx 0 0 52 [(1, vi x1), (3, vi ρ.1), (4, vi ρ.2)] [] (hp nx s)) (he1 : ∀ ρ : Unit, o = .inr (.inr ρ) → ww C M_X0_otherCarrier 1 0 0 nx (Qr) (Qx) nx 0 0 70 [] [] (hp nx s)) : ww C M_X0_otherCarrier 1 0 0 nx (Qr) (Qx) nx 0 0 2 [(0, .ref 56), (1, vi x1), (2, vi x2)] [] (hp nx s) := by
  unfold Bl_otherCarrier_t2 at hs
  refine w_iload_n 2 dX0_otherCarrier_2 rfl rfl ?_
  refine w_aload_n 0 dX0_otherCarrier_3 rfl rfl ?_
  refine x_getI 0 7 dX0_otherCarrier_4 (fxX0_34 rfl) rfl rfl (lt_of hnx (Nat.le_of_ble_eq_true rfl)) ?_
  refine x_icmpge hs dX0_otherCarrier_7 rfl (fun hs => ?_) (fun hs => ?_)
  · refine w_lv (lv' := []) [] rfl ?_
    cases hs
    exact he1 _ rfl
  · refine w_aload_n 0 dX0_otherCarrier_10 rfl rfl ?_
    refine x_getR 0 5 (b := 61) dX0_otherCarrier_11 (fxX0_28 rfl) rfl rfl (lt_of hnx (Nat.le_of_ble_eq_true rfl)) rfl ?_
    refine w_iload_n 2 dX0_otherCarrier_14 rfl rfl ?_
    refine x_N_I M_X11_at [.ref 61, vi x2] [] hs rfl dX0_otherCarrier_15 (lkX0_47 _ rfl) (Nat.le_of_ble_eq_true rfl) (Nat.le_of_ble_eq_true rfl) (Nat.le_of_ble_eq_true rfl) (Nat.le_of_ble_eq_true rfl) (c_Hx_at hnx 61 (Or.inl (rowW_of rfl (lt_of hnx (Nat.le_of_ble_eq_true rfl)))) x2 s) (fun y1 hy1 hs => ?_)
    refine x_iconst dX0_otherCarrier_18 ?_
    refine x_icmpne hs dX0_otherCarrier_19 rfl (fun hs => ?_) (fun hs => ?_)
    · exact q_Bl_otherCarrier_b64 hnx x1 x2 s hs hb he0 he1
    · refine w_aload_n 0 dX0_otherCarrier_22 rfl rfl ?_
      refine x_getR 0 3 (b := 59) dX0_otherCarrier_23 (fxX0_22 rfl) rfl rfl (lt_of hnx (Nat.le_of_ble_eq_true rfl)) rfl ?_
      refine w_iload_n 2 dX0_otherCarrier_26 rfl rfl ?_
      refine x_N_I M_X11_at [.ref 59, vi x2] [] hs rfl dX0_otherCarrier_27 (lkX0_47 _ rfl) (Nat.le_of_ble_eq_true rfl) (Nat.le_of_ble_eq_true rfl) (Nat.le_of_ble_eq_true rfl) (Nat.le_of_ble_eq_true rfl) (c_Hx_at hnx 59 (Or.inl (rowW_of rfl (lt_of hnx (Nat.le_of_ble_eq_true rfl)))) x2 s) (fun y2 hy2 hs => ?_)
      refine w_istore_n (lv' := [(3, vi y2), (0, .ref 56), (1, vi x1), (2, vi x2)]) dX0_otherCarrier_30 rfl (Nat.le_of_ble_eq_true rfl) rfl ?_
      refine w_aload_n 1 dX0_otherCarrier_31 rfl rfl ?_
      refine x_getR 0 4 (b := 60) dX0_otherCarrier_32 (fxX0_25 rfl) rfl rfl (lt_of hnx (Nat.le_of_ble_eq_true rfl)) rfl ?_
      refine w_iload_n 3 dX0_otherCarrier_35 rfl rfl ?_
      refine x_N_I M_X11_at [.ref 60, vi x2] [] hs rfl dX0_otherCarrier_36 (lkX0_47 _ rfl) (Nat.le_of_ble_eq_true rfl) (Nat.le_of_ble_eq_true rfl) (Nat.le_of_ble_eq_true rfl) (Nat.le_of_ble_eq_true rfl) (c_Hx_at hnx 60 (Or.inl (rowW_of rfl (lt_of hnx (Nat.le_of_ble_eq_true rfl)))) x2 s) (fun y3 hy3 hs => ?_)
      refine w_istore (lv' := [(4, vi y3), (3, vi y2), (0, .ref 56), (1, vi x1), (2, vi x2)]) dX0_otherCarrier_39 (Nat.le_of_ble_eq_true rfl) rfl ?_
      refine w_iload_n 1 dX0_otherCarrier_41 rfl rfl ?_
      refine w_iload_n 3 dX0_otherCarrier_42 rfl rfl ?_
      refine x_icmpeq hs dX0_otherCarrier_43 rfl (fun hs => ?_) (fun hs => ?_)
      · refine w_lv (lv' := [(1, vi x1), (3, vi y2), (4, vi y3)]) [3, 1, 0] rfl ?_
        cases hs
        exact he0 _ rfl
      · refine w_iload 0 dX0_otherCarrier_46 rfl ?_
        refine w_iload_n 3 dX0_otherCarrier_48 rfl rfl ?_
        refine x_icmpne hs dX0_otherCarrier_49 rfl (fun hs => ?_) (fun hs => ?_)
        · refine w_lv (lv' := [(0, .ref 56), (1, vi x1), (2, vi x2)]) [2, 3, 4] rfl ?_
          exact q_Bl_otherCarrier_b64 hnx x1 x2 s hs hb he0 he1
        · refine w_lv (lv' := [(1, vi x1), (3, vi y2), (4, vi y3)]) [3, 1, 0] rfl ?_
          cases hs
          exact he0 _ rfl
set_option maxRecDepth 100000 in
theorem q_Bl_otherCarrier_b52 {C : Cx} {nx : Nat} (hnx : 80 ≤ nx) (x1 : Int) (x3 : Int) (x4 : Int) (s : Sg) {o : Int} (hs : Bl_otherCarrier_b52 x1 x3 x4 s = some o) : ww C M_X0_otherCarrier 1 0 0 nx (QI nx s o) (XF) nx 0 0 52 [(1, vi x1), (3, vi x3), (4, vi x4)] [] (hp nx s) := by
  unfold Bl_otherCarrier_b52 at hs
  refine w_iload_n 1 dX0_otherCarrier_52 rfl rfl ?_
  refine w_iload_n 0 dX0_otherCarrier_53 rfl rfl ?_
  refine x_icmpne hs dX0_otherCarrier_54 rfl (fun hs => ?_) (fun hs => ?_)
  · refine w_iload_n 1 dX0_otherCarrier_62 rfl rfl ?_
    cases hs
    exact x_ireturn dX0_otherCarrier_63 rfl rfl (Nat.le_of_ble_eq_true rfl) (Nat.le_of_ble_eq_true rfl) ⟨rfl, rfl⟩
  · refine w_iload 2 dX0_otherCarrier_57 rfl ?_
    refine w_goto dX0_otherCarrier_59 rfl ?_
    cases hs
    exact x_ireturn dX0_otherCarrier_63 rfl rfl (Nat.le_of_ble_eq_true rfl) (Nat.le_of_ble_eq_true rfl) ⟨rfl, rfl⟩
set_option maxRecDepth 100000 in
theorem q_Bl_otherCarrier_l2 {C : Cx} {nx : Nat} (hnx : 80 ≤ nx) (x1 : Int) (x2 : Int) (s : Sg) {o : Int} (hs : Bl_otherCarrier_l2 x1 x2 s = some o) : ww C M_X0_otherCarrier 1 0 0 nx (QI nx s o) (XF) nx 0 0 2 [(0, .ref 56), (1, vi x1), (2, vi x2)] [] (hp nx s) := by
  unfold Bl_otherCarrier_l2 at hs
  refine bnd_e hs (fun ρ hw hs => ?_)
  rcases ρ with ⟨x3_4, x4_5⟩ | ⟨⟩
  · have hE : ww C M_X0_otherCarrier 1 0 0 nx (QI nx s o) (XF) nx 0 0 52 [(1, vi x1), (3, vi x3_4), (4, vi x4_5)] [] (hp nx s) := by
      exact q_Bl_otherCarrier_b52 hnx x1 x3_4 x4_5 s hs
    refine whl_w (P := fun σ => ww C M_X0_otherCarrier 1 0 0 nx (QI nx s o) (XF) nx 0 0 2 [(0, .ref 56), (1, vi x1), (2, vi σ)] [] (hp nx s)) (E := fun ρ => ρ = (.inl (x3_4, x4_5))) hw rfl ?_
    intro σ o' hs' hb' he'
    exact q_Bl_otherCarrier_t2 hnx x1 σ s hs' hb' (fun ρ e => by cases he' _ e; exact hE) (fun ρ e => by cases he' _ e)
  · have hE : ww C M_X0_otherCarrier 1 0 0 nx (QI nx s o) (XF) nx 0 0 70 [] [] (hp nx s) := by
      refine x_iconst dX0_otherCarrier_70 ?_
      cases hs
      exact x_ireturn dX0_otherCarrier_71 rfl rfl (Nat.le_of_ble_eq_true rfl) (Nat.le_of_ble_eq_true rfl) ⟨rfl, rfl⟩
    refine whl_w (P := fun σ => ww C M_X0_otherCarrier 1 0 0 nx (QI nx s o) (XF) nx 0 0 2 [(0, .ref 56), (1, vi x1), (2, vi σ)] [] (hp nx s)) (E := fun ρ => ρ = (.inr ())) hw rfl ?_
    intro σ o' hs' hb' he'
    exact q_Bl_otherCarrier_t2 hnx x1 σ s hs' hb' (fun ρ e => by cases he' _ e) (fun ρ e => by cases he' _ e; exact hE)
set_option maxRecDepth 100000 in
theorem c_Bl_otherCarrier {C : Cx} {nx : Nat} (hnx : 80 ≤ nx) (x1 : Int) (s : Sg) : ∀ o, Bl_otherCarrier x1 s = some o → mm C M_X0_otherCarrier 1 0 0 nx nx [.ref 56, vi x1] (hp nx s) (QI nx s o) (XF) := by
  intro o hs
  unfold Bl_otherCarrier at hs
  refine mm_of rfl rfl (Nat.le_of_ble_eq_true rfl) ?_
  show ww C M_X0_otherCarrier 1 0 0 nx (QI nx s o) (XF) nx 0 0 0 [(0, .ref 56), (1, vi x1)] [] (hp nx s)
  refine x_iconst dX0_otherCarrier_0 ?_
  refine w_istore_n (lv' := [(2, vi 0), (0, .ref 56), (1, vi x1)]) dX0_otherCarrier_1 rfl (Nat.le_of_ble_eq_true rfl) rfl ?_
  refine w_lv (lv' := [(0, .ref 56), (1, vi x1), (2, vi 0)]) [1, 2, 0] rfl ?_
  exact q_Bl_otherCarrier_l2 hnx x1 0 s hs
set_option maxRecDepth 100000 in
theorem c_Hx_answer {C : Cx} {nx : Nat} (hnx : 80 ≤ nx) (x1 : Int) (s : Sg) : ∀ o, Hx_answer x1 s = some o → mm C M_X11_answer 10 0 0 nx nx [.ref 0, vi x1] (hp nx s) (QT nx o) (XF) := by
  intro o hs
  unfold Hx_answer at hs
  refine mm_of rfl rfl (Nat.le_of_ble_eq_true rfl) ?_
  show ww C M_X11_answer 10 0 0 nx (QT nx o) (XF) nx 0 0 0 [(0, .ref 0), (1, vi x1)] [] (hp nx s)
  refine w_aload_n 0 dX11_answer_0 rfl rfl ?_
  refine w_iload_n 1 dX11_answer_1 rfl rfl ?_
  refine x_V_U M_X11_requireCell [vi x1] [] hs rfl dX11_answer_2 (lkX11_180 _ rfl) (lt_of hnx (Nat.le_of_ble_eq_true rfl)) rfl rfl (Nat.le_of_ble_eq_true rfl) (Nat.le_of_ble_eq_true rfl) (Nat.le_of_ble_eq_true rfl) (Nat.le_of_ble_eq_true rfl) (c_Hx_requireCell hnx x1 s) (fun y1 s2 hy1 hs => ?_)
  refine w_aload_n 0 dX11_answer_5 rfl rfl ?_
  refine x_getR 11 10 (b := 56) dX11_answer_6 (fxX11_72 rfl) rfl rfl (lt_of hnx (Nat.le_of_ble_eq_true rfl)) rfl ?_
  refine w_aload_n 0 dX11_answer_9 rfl rfl ?_
  refine x_getR 11 2 (b := 10) dX11_answer_10 (fxX11_28 rfl) rfl rfl (lt_of hnx (Nat.le_of_ble_eq_true rfl)) rfl ?_
  refine x_getR 9 0 (b := 11) dX11_answer_13 (fxX11_194 rfl) rfl rfl (lt_of hnx (Nat.le_of_ble_eq_true rfl)) rfl ?_
  refine w_aload_n 0 dX11_answer_16 rfl rfl ?_
  refine x_getR 11 2 (b := 10) dX11_answer_17 (fxX11_28 rfl) rfl rfl (lt_of hnx (Nat.le_of_ble_eq_true rfl)) rfl ?_
  refine x_getI 9 5 dX11_answer_20 (fxX11_158 rfl) rfl rfl (lt_of hnx (Nat.le_of_ble_eq_true rfl)) ?_
  refine x_S_I M_X11_otherSide [vi (gi s2 10 5)] [.ref 11, .ref 56] hs rfl dX11_answer_23 (lkX11_250 _ rfl) (Nat.le_of_ble_eq_true rfl) (Nat.le_of_ble_eq_true rfl) (Nat.le_of_ble_eq_true rfl) (Nat.le_of_ble_eq_true rfl) (c_Hx_otherSide hnx (gi s2 10 5) s2) (fun y3 hy3 hs => ?_)
  refine x_V_V M_X0_find [.ref 11, vi y3] [] hs rfl dX11_answer_26 (lkX11_220 _ rfl) (lt_of hnx (Nat.le_of_ble_eq_true rfl)) rfl rfl (Nat.le_of_ble_eq_true rfl) (Nat.le_of_ble_eq_true rfl) (Nat.le_of_ble_eq_true rfl) (Nat.le_of_ble_eq_true rfl) (c_Bl_find hnx 11 (Or.inl (rowW_of rfl (lt_of hnx (Nat.le_of_ble_eq_true rfl)))) y3 s2) (fun s5 hs5 hs => ?_)
  refine w_aload_n 0 dX11_answer_29 rfl rfl ?_
  refine x_getR 11 10 (b := 56) dX11_answer_30 (fxX11_72 rfl) rfl rfl (lt_of hnx (Nat.le_of_ble_eq_true rfl)) rfl ?_
  refine w_iload_n 1 dX11_answer_33 rfl rfl ?_
  refine x_V_I M_X0_otherCarrier [vi x1] [] hs rfl dX11_answer_34 (lkX11_253 _ rfl) (lt_of hnx (Nat.le_of_ble_eq_true rfl)) rfl rfl (Nat.le_of_ble_eq_true rfl) (Nat.le_of_ble_eq_true rfl) (Nat.le_of_ble_eq_true rfl) (Nat.le_of_ble_eq_true rfl) (c_Bl_otherCarrier hnx x1 s5) (fun y6 hy6 hs => ?_)
  cases hs
  exact x_ireturn dX11_answer_37 rfl rfl (Nat.le_of_ble_eq_true rfl) (Nat.le_of_ble_eq_true rfl) ⟨_, rfl, rfl, rfl⟩
set_option maxRecDepth 100000 in
theorem q_Li_joinsBy_b54 {C : Cx} {nx : Nat} (hnx : 80 ≤ nx) {Qr : Option Value → Hp → Prop} {Qx : String → Hp → Prop}  (x1 : Int) (x2 : Int) (x3 : Int) (s : Sg) {o : ((Int × Int) ⊕ (Int))} (hs : Li_joinsBy_b54 x1 x2 x3 s = some o) (hb : ∀ σ : Int × Int, o = .inl σ → ww C M_X7_joinsBy 2 0 0 nx (Qr) (Qx) nx 0 0 15 [(0, .ref 5), (1, vi x1), (2, vi σ.1), (3, vi σ.2)] [] (hp nx s)) (he0 : ∀ ρ : Int, o = .inr ρ → ww C M_X7_joinsBy 2 0 0 nx (Qr) (Qx) nx 0 0 60 [(2, vi ρ)] [] (hp nx s)) : ww C M_X7_joinsBy 2 0 0 nx (Qr) (Qx) nx 0 0 54 [(0, .ref 5), (1, vi x1), (2, vi x2), (3, vi x3)] [] (hp nx s) := by
  unfold Li_joinsBy_b54 at hs
  refine x_iinc (lv' := [(3, vi (x3 + 1)), (0, .ref 5), (1, vi x1), (2, vi x2)]) 3 dX7_joinsBy_54 rfl (Nat.le_of_ble_eq_true rfl) rfl ?_
  refine w_goto dX7_joinsBy_57 rfl ?_
  refine w_lv (lv' := [(0, .ref 5), (1, vi x1), (2, vi x2), (3, vi (x3 + 1))]) [1, 2, 3, 0] rfl ?_
  cases hs
  exact hb _ rfl
set_option maxRecDepth 100000 in
theorem q_Li_joinsBy_t15 {C : Cx} {nx : Nat} (hnx : 80 ≤ nx) {Qr : Option Value → Hp → Prop} {Qx : String → Hp → Prop}  (x1 : Int) (x2 : Int) (x3 : Int) (s : Sg) {o : ((Int × Int) ⊕ (Int))} (hs : Li_joinsBy_t15 x1 x2 x3 s = some o) (hb : ∀ σ : Int × Int, o = .inl σ → ww C M_X7_joinsBy 2 0 0 nx (Qr) (Qx) nx 0 0 15 [(0, .ref 5), (1, vi x1), (2, vi σ.1), (3, vi σ.2)] [] (hp nx s)) (he0 : ∀ ρ : Int, o = .inr ρ → ww C M_X7_joinsBy 2 0 0 nx (Qr) (Qx) nx 0 0 60 [(2, vi ρ)] [] (hp nx s)) : ww C M_X7_joinsBy 2 0 0 nx (Qr) (Qx) nx 0 0 15 [(0, .ref 5), (1, vi x1), (2, vi x2), (3, vi x3)] [] (hp nx s) := by
  unfold Li_joinsBy_t15 at hs
  refine w_iload_n 3 dX7_joinsBy_15 rfl rfl ?_
  refine x_bipush dX7_joinsBy_16 (by decide) ?_
  refine x_icmpge hs dX7_joinsBy_18 rfl (fun hs => ?_) (fun hs => ?_)
  · refine w_lv (lv' := [(2, vi x2)]) [2] rfl ?_
    cases hs
    exact he0 _ rfl
  · refine w_aload_n 0 dX7_joinsBy_21 rfl rfl ?_
    refine w_aload_n 0 dX7_joinsBy_22 rfl rfl ?_
    refine x_getR 7 0 (b := 1) dX7_joinsBy_23 (fxX7_9 rfl) rfl rfl (lt_of hnx (Nat.le_of_ble_eq_true rfl)) rfl ?_
    refine w_iload_n 1 dX7_joinsBy_26 rfl rfl ?_
    refine w_iload_n 3 dX7_joinsBy_27 rfl rfl ?_
    refine x_V_I M_X5_near [vi x1, vi x3] [.ref 5] hs rfl dX7_joinsBy_28 (lkX7_53 _ rfl) (lt_of hnx (Nat.le_of_ble_eq_true rfl)) rfl rfl (Nat.le_of_ble_eq_true rfl) (Nat.le_of_ble_eq_true rfl) (Nat.le_of_ble_eq_true rfl) (Nat.le_of_ble_eq_true rfl) (c_Gr_near hnx x1 x3 s) (fun y2 hy2 hs => ?_)
    refine x_V_I M_X7_top [vi y2] [] hs rfl dX7_joinsBy_31 (lkX7_56 _ rfl) (lt_of hnx (Nat.le_of_ble_eq_true rfl)) rfl rfl (Nat.le_of_ble_eq_true rfl) (Nat.le_of_ble_eq_true rfl) (Nat.le_of_ble_eq_true rfl) (Nat.le_of_ble_eq_true rfl) (c_Li_top hnx y2 s) (fun y3 hy3 hs => ?_)
    refine w_istore (lv' := [(4, vi y3), (0, .ref 5), (1, vi x1), (2, vi x2), (3, vi x3)]) dX7_joinsBy_34 (Nat.le_of_ble_eq_true rfl) rfl ?_
    refine w_iload 0 dX7_joinsBy_36 rfl ?_
    refine x_iconst dX7_joinsBy_38 ?_
    refine x_icmpeq hs dX7_joinsBy_39 rfl (fun hs => ?_) (fun hs => ?_)
    · refine w_lv (lv' := [(0, .ref 5), (1, vi x1), (2, vi x2), (3, vi x3)]) [1, 2, 3, 4] rfl ?_
      exact q_Li_joinsBy_b54 hnx x1 x2 x3 s hs hb he0
    · refine w_iload_n 3 dX7_joinsBy_42 rfl rfl ?_
      refine w_aload_n 1 dX7_joinsBy_43 rfl rfl ?_
      refine x_getR 7 2 (b := 7) dX7_joinsBy_44 (fxX7_19 rfl) rfl rfl (lt_of hnx (Nat.le_of_ble_eq_true rfl)) rfl ?_
      refine w_iload 0 dX7_joinsBy_47 rfl ?_
      refine x_N_I M_X11_at [.ref 7, vi y3] [vi x2] hs rfl dX7_joinsBy_49 (lkX7_41 _ rfl) (Nat.le_of_ble_eq_true rfl) (Nat.le_of_ble_eq_true rfl) (Nat.le_of_ble_eq_true rfl) (Nat.le_of_ble_eq_true rfl) (c_Hx_at hnx 7 (Or.inl (rowW_of rfl (lt_of hnx (Nat.le_of_ble_eq_true rfl)))) y3 s) (fun y4 hy4 hs => ?_)
      refine x_ior dX7_joinsBy_52 ?_
      refine x_istore_n (fun x2_5 => [(2, vi x2_5), (4, vi y3), (0, .ref 5), (1, vi x1), (3, vi x3)]) hs dX7_joinsBy_53 rfl (Nat.le_of_ble_eq_true rfl) (fun _ => rfl) (fun x2_5 hs => ?_)
      refine w_lv (lv' := [(0, .ref 5), (1, vi x1), (2, vi x2_5), (3, vi x3)]) [2, 3, 0, 4] rfl ?_
      exact q_Li_joinsBy_b54 hnx x1 x2_5 x3 s hs hb he0
set_option maxRecDepth 100000 in
theorem q_Li_joinsBy_l15 {C : Cx} {nx : Nat} (hnx : 80 ≤ nx) (x1 : Int) (x2 : Int) (x3 : Int) (s : Sg) {o : Int} (hs : Li_joinsBy_l15 x1 x2 x3 s = some o) : ww C M_X7_joinsBy 2 0 0 nx (QI nx s o) (XF) nx 0 0 15 [(0, .ref 5), (1, vi x1), (2, vi x2), (3, vi x3)] [] (hp nx s) := by
  unfold Li_joinsBy_l15 at hs
  refine bnd_e hs (fun x2_6 hw hs => ?_)
  have hE : ww C M_X7_joinsBy 2 0 0 nx (QI nx s o) (XF) nx 0 0 60 [(2, vi x2_6)] [] (hp nx s) := by
    refine w_iload_n 0 dX7_joinsBy_60 rfl rfl ?_
    refine x_iconst dX7_joinsBy_61 ?_
    refine x_icmpne hs dX7_joinsBy_62 rfl (fun hs => ?_) (fun hs => ?_)
    · refine x_iconst dX7_joinsBy_69 ?_
      cases hs
      exact x_zreturn (Or.inl rfl) dX7_joinsBy_70 rfl rfl (Nat.le_of_ble_eq_true rfl) (Nat.le_of_ble_eq_true rfl) ⟨rfl, rfl⟩
    · refine x_iconst dX7_joinsBy_65 ?_
      refine w_goto dX7_joinsBy_66 rfl ?_
      cases hs
      exact x_zreturn (Or.inr rfl) dX7_joinsBy_70 rfl rfl (Nat.le_of_ble_eq_true rfl) (Nat.le_of_ble_eq_true rfl) ⟨rfl, rfl⟩
  refine whl_w (P := fun σ => ww C M_X7_joinsBy 2 0 0 nx (QI nx s o) (XF) nx 0 0 15 [(0, .ref 5), (1, vi x1), (2, vi σ.1), (3, vi σ.2)] [] (hp nx s)) (E := fun ρ => ρ = x2_6) hw rfl ?_
  intro σ o' hs' hb' he'
  exact q_Li_joinsBy_t15 hnx x1 σ.1 σ.2 s hs' hb' (fun ρ e => by cases he' _ e; exact hE)
set_option maxRecDepth 100000 in
theorem c_Li_joinsBy {C : Cx} {nx : Nat} (hnx : 80 ≤ nx) (x1 : Int) (s : Sg) : ∀ o, Li_joinsBy x1 s = some o → mm C M_X7_joinsBy 2 0 0 nx nx [.ref 5, vi x1] (hp nx s) (QI nx s o) (XF) := by
  intro o hs
  unfold Li_joinsBy at hs
  refine mm_of rfl rfl (Nat.le_of_ble_eq_true rfl) ?_
  show ww C M_X7_joinsBy 2 0 0 nx (QI nx s o) (XF) nx 0 0 0 [(0, .ref 5), (1, vi x1)] [] (hp nx s)
  refine w_aload_n 0 dX7_joinsBy_0 rfl rfl ?_
  refine x_getR 7 0 (b := 1) dX7_joinsBy_1 (fxX7_9 rfl) rfl rfl (lt_of hnx (Nat.le_of_ble_eq_true rfl)) rfl ?_
  refine w_iload_n 1 dX7_joinsBy_4 rfl rfl ?_
  refine w_aload_n 0 dX7_joinsBy_5 rfl rfl ?_
  refine x_getI 7 5 dX7_joinsBy_6 (fxX7_28 rfl) rfl rfl (lt_of hnx (Nat.le_of_ble_eq_true rfl)) ?_
  refine x_V_I M_X5_edges [vi x1, vi (gi s 5 5)] [] hs rfl dX7_joinsBy_9 (lkX7_49 _ rfl) (lt_of hnx (Nat.le_of_ble_eq_true rfl)) rfl rfl (Nat.le_of_ble_eq_true rfl) (Nat.le_of_ble_eq_true rfl) (Nat.le_of_ble_eq_true rfl) (Nat.le_of_ble_eq_true rfl) (c_Gr_edges hnx x1 (gi s 5 5) s) (fun y1 hy1 hs => ?_)
  refine w_istore_n (lv' := [(2, vi y1), (0, .ref 5), (1, vi x1)]) dX7_joinsBy_12 rfl (Nat.le_of_ble_eq_true rfl) rfl ?_
  refine x_iconst dX7_joinsBy_13 ?_
  refine w_istore_n (lv' := [(3, vi 0), (2, vi y1), (0, .ref 5), (1, vi x1)]) dX7_joinsBy_14 rfl (Nat.le_of_ble_eq_true rfl) rfl ?_
  refine w_lv (lv' := [(0, .ref 5), (1, vi x1), (2, vi y1), (3, vi 0)]) [2, 3, 1, 0] rfl ?_
  exact q_Li_joinsBy_l15 hnx x1 y1 0 s hs
set_option maxRecDepth 100000 in
theorem q_Hx_countThreats_b68 {C : Cx} {nx : Nat} (hnx : 80 ≤ nx) {Qr : Option Value → Hp → Prop} {Qx : String → Hp → Prop}  (x2 : Int) (x3 : Int) (s : Sg) {o : ((Int × Int) ⊕ (Int))} (hs : Hx_countThreats_b68 x2 x3 s = some o) (hb : ∀ σ : Int × Int, o = .inl σ → ww C M_X11_countThreats 3 0 0 nx (Qr) (Qx) nx 0 0 31 [(0, .ref 0), (2, vi σ.1), (3, vi σ.2)] [] (hp nx s)) (he0 : ∀ ρ : Int, o = .inr ρ → ww C M_X11_countThreats 3 0 0 nx (Qr) (Qx) nx 0 0 74 [(2, vi ρ)] [] (hp nx s)) : ww C M_X11_countThreats 3 0 0 nx (Qr) (Qx) nx 0 0 68 [(0, .ref 0), (2, vi x2), (3, vi x3)] [] (hp nx s) := by
  unfold Hx_countThreats_b68 at hs
  refine x_iinc (lv' := [(3, vi (x3 + 1)), (0, .ref 0), (2, vi x2)]) 2 dX11_countThreats_68 rfl (Nat.le_of_ble_eq_true rfl) rfl ?_
  refine w_goto dX11_countThreats_71 rfl ?_
  refine w_lv (lv' := [(0, .ref 0), (2, vi x2), (3, vi (x3 + 1))]) [1, 2, 0] rfl ?_
  cases hs
  exact hb _ rfl
set_option maxRecDepth 100000 in
theorem q_Hx_countThreats_t31 {C : Cx} {nx : Nat} (hnx : 80 ≤ nx) {Qr : Option Value → Hp → Prop} {Qx : String → Hp → Prop}  (x2 : Int) (x3 : Int) (s : Sg) {o : ((Int × Int) ⊕ (Int))} (hs : Hx_countThreats_t31 x2 x3 s = some o) (hb : ∀ σ : Int × Int, o = .inl σ → ww C M_X11_countThreats 3 0 0 nx (Qr) (Qx) nx 0 0 31 [(0, .ref 0), (2, vi σ.1), (3, vi σ.2)] [] (hp nx s)) (he0 : ∀ ρ : Int, o = .inr ρ → ww C M_X11_countThreats 3 0 0 nx (Qr) (Qx) nx 0 0 74 [(2, vi ρ)] [] (hp nx s)) : ww C M_X11_countThreats 3 0 0 nx (Qr) (Qx) nx 0 0 31 [(0, .ref 0), (2, vi x2), (3, vi x3)] [] (hp nx s) := by
  unfold Hx_countThreats_t31 at hs
  refine w_iload_n 2 dX11_countThreats_31 rfl rfl ?_
  refine w_aload_n 0 dX11_countThreats_32 rfl rfl ?_
  refine x_getR 11 0 (b := 1) dX11_countThreats_33 (fxX11_10 rfl) rfl rfl (lt_of hnx (Nat.le_of_ble_eq_true rfl)) rfl ?_
  refine x_getI 5 4 dX11_countThreats_36 (fxX11_275 rfl) rfl rfl (lt_of hnx (Nat.le_of_ble_eq_true rfl)) ?_
  refine x_icmpge hs dX11_countThreats_39 rfl (fun hs => ?_) (fun hs => ?_)
  · refine w_lv (lv' := [(2, vi x2)]) [1] rfl ?_
    cases hs
    exact he0 _ rfl
  · refine w_aload_n 0 dX11_countThreats_42 rfl rfl ?_
    refine x_getR 11 2 (b := 10) dX11_countThreats_43 (fxX11_28 rfl) rfl rfl (lt_of hnx (Nat.le_of_ble_eq_true rfl)) rfl ?_
    refine w_iload_n 2 dX11_countThreats_46 rfl rfl ?_
    refine x_V_I M_X9_stone [vi x3] [] hs rfl dX11_countThreats_47 (lkX11_183 _ rfl) (lt_of hnx (Nat.le_of_ble_eq_true rfl)) rfl rfl (Nat.le_of_ble_eq_true rfl) (Nat.le_of_ble_eq_true rfl) (Nat.le_of_ble_eq_true rfl) (Nat.le_of_ble_eq_true rfl) (c_Po_stone hnx 10 (show 10 ∈ posL by decide) x3 s) (fun y4 hy4 hs => ?_)
    refine x_iconst dX11_countThreats_50 ?_
    refine x_icmpne hs dX11_countThreats_51 rfl (fun hs => ?_) (fun hs => ?_)
    · exact q_Hx_countThreats_b68 hnx x2 x3 s hs hb he0
    · refine w_aload_n 0 dX11_countThreats_54 rfl rfl ?_
      refine x_getR 11 1 (b := 5) dX11_countThreats_55 (fxX11_21 rfl) rfl rfl (lt_of hnx (Nat.le_of_ble_eq_true rfl)) rfl ?_
      refine w_iload_n 2 dX11_countThreats_58 rfl rfl ?_
      refine x_V_I M_X7_joinsBy [vi x3] [] hs rfl dX11_countThreats_59 (lkX11_373 _ rfl) (lt_of hnx (Nat.le_of_ble_eq_true rfl)) rfl rfl (Nat.le_of_ble_eq_true rfl) (Nat.le_of_ble_eq_true rfl) (Nat.le_of_ble_eq_true rfl) (Nat.le_of_ble_eq_true rfl) (c_Li_joinsBy hnx x3 s) (fun y5 hy5 hs => ?_)
      refine x_ifeq hs dX11_countThreats_62 rfl (fun hs => ?_) (fun hs => ?_)
      · exact q_Hx_countThreats_b68 hnx x2 x3 s hs hb he0
      · refine x_iinc (lv' := [(2, vi (x2 + 1)), (0, .ref 0), (3, vi x3)]) 1 dX11_countThreats_65 rfl (Nat.le_of_ble_eq_true rfl) rfl ?_
        refine w_lv (lv' := [(0, .ref 0), (2, vi (x2 + 1)), (3, vi x3)]) [1, 0, 2] rfl ?_
        exact q_Hx_countThreats_b68 hnx (x2 + 1) x3 s hs hb he0
set_option maxRecDepth 100000 in
theorem q_Hx_countThreats_l31 {C : Cx} {nx : Nat} (hnx : 80 ≤ nx) (x2 : Int) (x3 : Int) (s : Sg) {o : Int × Sg} (hs : Hx_countThreats_l31 x2 x3 s = some o) : ww C M_X11_countThreats 3 0 0 nx (QI nx o.2 o.1) (XF) nx 0 0 31 [(0, .ref 0), (2, vi x2), (3, vi x3)] [] (hp nx s) := by
  unfold Hx_countThreats_l31 at hs
  refine bnd_e hs (fun x2_6 hw hs => ?_)
  have hE : ww C M_X11_countThreats 3 0 0 nx (QI nx o.2 o.1) (XF) nx 0 0 74 [(2, vi x2_6)] [] (hp nx s) := by
    refine w_iload_n 0 dX11_countThreats_74 rfl rfl ?_
    cases hs
    exact x_ireturn dX11_countThreats_75 rfl rfl (Nat.le_of_ble_eq_true rfl) (Nat.le_of_ble_eq_true rfl) ⟨rfl, rfl⟩
  refine whl_w (P := fun σ => ww C M_X11_countThreats 3 0 0 nx (QI nx o.2 o.1) (XF) nx 0 0 31 [(0, .ref 0), (2, vi σ.1), (3, vi σ.2)] [] (hp nx s)) (E := fun ρ => ρ = x2_6) hw rfl ?_
  intro σ o' hs' hb' he'
  exact q_Hx_countThreats_t31 hnx σ.1 σ.2 s hs' hb' (fun ρ e => by cases he' _ e; exact hE)
set_option maxRecDepth 100000 in
theorem c_Hx_countThreats {C : Cx} {nx : Nat} (hnx : 80 ≤ nx) (x1 : Int) (s : Sg) : ∀ o, Hx_countThreats x1 s = some o → mm C M_X11_countThreats 3 0 0 nx nx [.ref 0, vi x1] (hp nx s) (QI nx o.2 o.1) (XF) := by
  intro o hs
  unfold Hx_countThreats at hs
  refine mm_of rfl rfl (Nat.le_of_ble_eq_true rfl) ?_
  show ww C M_X11_countThreats 3 0 0 nx (QI nx o.2 o.1) (XF) nx 0 0 0 [(0, .ref 0), (1, vi x1)] [] (hp nx s)
  refine w_aload_n 0 dX11_countThreats_0 rfl rfl ?_
  refine x_getR 11 1 (b := 5) dX11_countThreats_1 (fxX11_21 rfl) rfl rfl (lt_of hnx (Nat.le_of_ble_eq_true rfl)) rfl ?_
  refine w_aload_n 0 dX11_countThreats_4 rfl rfl ?_
  refine x_getR 11 2 (b := 10) dX11_countThreats_5 (fxX11_28 rfl) rfl rfl (lt_of hnx (Nat.le_of_ble_eq_true rfl)) rfl ?_
  refine x_getR 9 0 (b := 11) dX11_countThreats_8 (fxX11_194 rfl) rfl rfl (lt_of hnx (Nat.le_of_ble_eq_true rfl)) rfl ?_
  refine w_iload_n 1 dX11_countThreats_11 rfl rfl ?_
  refine x_V_V M_X7_gather [.ref 11, vi x1] [] hs rfl dX11_countThreats_12 (lkX11_198 _ rfl) (lt_of hnx (Nat.le_of_ble_eq_true rfl)) rfl rfl (Nat.le_of_ble_eq_true rfl) (Nat.le_of_ble_eq_true rfl) (Nat.le_of_ble_eq_true rfl) (Nat.le_of_ble_eq_true rfl) (c_Li_gather hnx 11 (Or.inl (rowW_of rfl (lt_of hnx (Nat.le_of_ble_eq_true rfl)))) x1 s) (fun s2 hs2 hs => ?_)
  refine w_aload_n 0 dX11_countThreats_15 rfl rfl ?_
  refine x_getR 11 1 (b := 5) dX11_countThreats_16 (fxX11_21 rfl) rfl rfl (lt_of hnx (Nat.le_of_ble_eq_true rfl)) rfl ?_
  refine x_V_I M_X7_joined [] [] hs rfl dX11_countThreats_19 (lkX11_247 _ rfl) (lt_of hnx (Nat.le_of_ble_eq_true rfl)) rfl rfl (Nat.le_of_ble_eq_true rfl) (Nat.le_of_ble_eq_true rfl) (Nat.le_of_ble_eq_true rfl) (Nat.le_of_ble_eq_true rfl) (c_Li_joined hnx s2) (fun y3 hy3 hs => ?_)
  refine x_ifeq hs dX11_countThreats_22 rfl (fun hs => ?_) (fun hs => ?_)
  · refine x_iconst dX11_countThreats_27 ?_
    refine w_istore_n (lv' := [(2, vi 0), (0, .ref 0), (1, vi x1)]) dX11_countThreats_28 rfl (Nat.le_of_ble_eq_true rfl) rfl ?_
    refine x_iconst dX11_countThreats_29 ?_
    refine w_istore_n (lv' := [(3, vi 0), (2, vi 0), (0, .ref 0), (1, vi x1)]) dX11_countThreats_30 rfl (Nat.le_of_ble_eq_true rfl) rfl ?_
    refine w_lv (lv' := [(0, .ref 0), (2, vi 0), (3, vi 0)]) [2, 1, 0] rfl ?_
    exact q_Hx_countThreats_l31 hnx 0 0 s2 hs
  · refine x_iconst dX11_countThreats_25 ?_
    cases hs
    exact x_ireturn dX11_countThreats_26 rfl rfl (Nat.le_of_ble_eq_true rfl) (Nat.le_of_ble_eq_true rfl) ⟨rfl, rfl⟩
set_option maxRecDepth 100000 in
theorem c_Hx_threats {C : Cx} {nx : Nat} (hnx : 80 ≤ nx) (x1 : Int) (s : Sg) : ∀ o, Hx_threats x1 s = some o → mm C M_X11_threats 10 0 0 nx nx [.ref 0, vi x1] (hp nx s) (QT nx o) (XF) := by
  intro o hs
  unfold Hx_threats at hs
  refine mm_of rfl rfl (Nat.le_of_ble_eq_true rfl) ?_
  show ww C M_X11_threats 10 0 0 nx (QT nx o) (XF) nx 0 0 0 [(0, .ref 0), (1, vi x1)] [] (hp nx s)
  refine w_iload_n 1 dX11_threats_0 rfl rfl ?_
  refine x_S_U M_X11_requireSide [vi x1] [] hs rfl dX11_threats_1 (lkX11_211 _ rfl) (Nat.le_of_ble_eq_true rfl) (Nat.le_of_ble_eq_true rfl) (Nat.le_of_ble_eq_true rfl) (Nat.le_of_ble_eq_true rfl) (c_Hx_requireSide hnx x1 s) (fun y1 s2 hy1 hs => ?_)
  refine w_aload_n 0 dX11_threats_4 rfl rfl ?_
  refine w_iload_n 1 dX11_threats_5 rfl rfl ?_
  refine x_V_B M_X11_countThreats [vi x1] [] hs rfl dX11_threats_6 (lkX11_256 _ rfl) (lt_of hnx (Nat.le_of_ble_eq_true rfl)) rfl rfl (Nat.le_of_ble_eq_true rfl) (Nat.le_of_ble_eq_true rfl) (Nat.le_of_ble_eq_true rfl) (Nat.le_of_ble_eq_true rfl) (c_Hx_countThreats hnx x1 s2) (fun y3 s4 hy3 hs => ?_)
  cases hs
  exact x_ireturn dX11_threats_9 rfl rfl (Nat.le_of_ble_eq_true rfl) (Nat.le_of_ble_eq_true rfl) ⟨_, rfl, rfl, rfl⟩
set_option maxRecDepth 100000 in
theorem q_Hx_findThreat_b80 {C : Cx} {nx : Nat} (hnx : 80 ≤ nx) {Qr : Option Value → Hp → Prop} {Qx : String → Hp → Prop}  (x2 : Int) (x3 : Int) (x4 : Int) (s : Sg) {o : ((Int × Int) ⊕ ((Int) ⊕ (Unit)))} (hs : Hx_findThreat_b80 x2 x3 x4 s = some o) (hb : ∀ σ : Int × Int, o = .inl σ → ww C M_X11_findThreat 3 0 0 nx (Qr) (Qx) nx 0 0 32 [(0, .ref 0), (2, vi x2), (3, vi σ.1), (4, vi σ.2)] [] (hp nx s)) (he0 : ∀ ρ : Int, o = .inr (.inl ρ) → ww C M_X11_findThreat 3 0 0 nx (Qr) (Qx) nx 0 0 74 [(4, vi ρ)] [] (hp nx s)) (he1 : ∀ ρ : Unit, o = .inr (.inr ρ) → ww C M_X11_findThreat 3 0 0 nx (Qr) (Qx) nx 0 0 86 [] [] (hp nx s)) : ww C M_X11_findThreat 3 0 0 nx (Qr) (Qx) nx 0 0 80 [(0, .ref 0), (2, vi x2), (3, vi x3), (4, vi x4)] [] (hp nx s) := by
  unfold Hx_findThreat_b80 at hs
  refine x_iinc (lv' := [(4, vi (x4 + 1)), (0, .ref 0), (2, vi x2), (3, vi x3)]) 3 dX11_findThreat_80 rfl (Nat.le_of_ble_eq_true rfl) rfl ?_
  refine w_goto dX11_findThreat_83 rfl ?_
  refine w_lv (lv' := [(0, .ref 0), (2, vi x2), (3, vi x3), (4, vi (x4 + 1))]) [1, 2, 3, 0] rfl ?_
  cases hs
  exact hb _ rfl
set_option maxRecDepth 100000 in
theorem q_Hx_findThreat_t32 {C : Cx} {nx : Nat} (hnx : 80 ≤ nx) {Qr : Option Value → Hp → Prop} {Qx : String → Hp → Prop}  (x2 : Int) (x3 : Int) (x4 : Int) (s : Sg) {o : ((Int × Int) ⊕ ((Int) ⊕ (Unit)))} (hs : Hx_findThreat_t32 x2 x3 x4 s = some o) (hb : ∀ σ : Int × Int, o = .inl σ → ww C M_X11_findThreat 3 0 0 nx (Qr) (Qx) nx 0 0 32 [(0, .ref 0), (2, vi x2), (3, vi σ.1), (4, vi σ.2)] [] (hp nx s)) (he0 : ∀ ρ : Int, o = .inr (.inl ρ) → ww C M_X11_findThreat 3 0 0 nx (Qr) (Qx) nx 0 0 74 [(4, vi ρ)] [] (hp nx s)) (he1 : ∀ ρ : Unit, o = .inr (.inr ρ) → ww C M_X11_findThreat 3 0 0 nx (Qr) (Qx) nx 0 0 86 [] [] (hp nx s)) : ww C M_X11_findThreat 3 0 0 nx (Qr) (Qx) nx 0 0 32 [(0, .ref 0), (2, vi x2), (3, vi x3), (4, vi x4)] [] (hp nx s) := by
  unfold Hx_findThreat_t32 at hs
  refine w_iload 3 dX11_findThreat_32 rfl ?_
  refine w_aload_n 0 dX11_findThreat_34 rfl rfl ?_
  refine x_getR 11 0 (b := 1) dX11_findThreat_35 (fxX11_10 rfl) rfl rfl (lt_of hnx (Nat.le_of_ble_eq_true rfl)) rfl ?_
  refine x_getI 5 4 dX11_findThreat_38 (fxX11_275 rfl) rfl rfl (lt_of hnx (Nat.le_of_ble_eq_true rfl)) ?_
  refine x_icmpge hs dX11_findThreat_41 rfl (fun hs => ?_) (fun hs => ?_)
  · refine w_lv (lv' := []) [] rfl ?_
    cases hs
    exact he1 _ rfl
  · refine w_aload_n 0 dX11_findThreat_44 rfl rfl ?_
    refine x_getR 11 2 (b := 10) dX11_findThreat_45 (fxX11_28 rfl) rfl rfl (lt_of hnx (Nat.le_of_ble_eq_true rfl)) rfl ?_
    refine w_iload 3 dX11_findThreat_48 rfl ?_
    refine x_V_I M_X9_stone [vi x4] [] hs rfl dX11_findThreat_50 (lkX11_183 _ rfl) (lt_of hnx (Nat.le_of_ble_eq_true rfl)) rfl rfl (Nat.le_of_ble_eq_true rfl) (Nat.le_of_ble_eq_true rfl) (Nat.le_of_ble_eq_true rfl) (Nat.le_of_ble_eq_true rfl) (c_Po_stone hnx 10 (show 10 ∈ posL by decide) x4 s) (fun y4 hy4 hs => ?_)
    refine x_iconst dX11_findThreat_53 ?_
    refine x_icmpne hs dX11_findThreat_54 rfl (fun hs => ?_) (fun hs => ?_)
    · exact q_Hx_findThreat_b80 hnx x2 x3 x4 s hs hb he0 he1
    · refine w_aload_n 0 dX11_findThreat_57 rfl rfl ?_
      refine x_getR 11 1 (b := 5) dX11_findThreat_58 (fxX11_21 rfl) rfl rfl (lt_of hnx (Nat.le_of_ble_eq_true rfl)) rfl ?_
      refine w_iload 3 dX11_findThreat_61 rfl ?_
      refine x_V_I M_X7_joinsBy [vi x4] [] hs rfl dX11_findThreat_63 (lkX11_373 _ rfl) (lt_of hnx (Nat.le_of_ble_eq_true rfl)) rfl rfl (Nat.le_of_ble_eq_true rfl) (Nat.le_of_ble_eq_true rfl) (Nat.le_of_ble_eq_true rfl) (Nat.le_of_ble_eq_true rfl) (c_Li_joinsBy hnx x4 s) (fun y5 hy5 hs => ?_)
      refine x_ifeq hs dX11_findThreat_66 rfl (fun hs => ?_) (fun hs => ?_)
      · exact q_Hx_findThreat_b80 hnx x2 x3 x4 s hs hb he0 he1
      · refine w_iload_n 2 dX11_findThreat_69 rfl rfl ?_
        refine w_iload_n 1 dX11_findThreat_70 rfl rfl ?_
        refine x_icmpne hs dX11_findThreat_71 rfl (fun hs => ?_) (fun hs => ?_)
        · refine x_iinc (lv' := [(3, vi (x3 + 1)), (0, .ref 0), (2, vi x2), (4, vi x4)]) 2 dX11_findThreat_77 rfl (Nat.le_of_ble_eq_true rfl) rfl ?_
          refine w_lv (lv' := [(0, .ref 0), (2, vi x2), (3, vi (x3 + 1)), (4, vi x4)]) [1, 2, 0, 3] rfl ?_
          exact q_Hx_findThreat_b80 hnx x2 (x3 + 1) x4 s hs hb he0 he1
        · refine w_lv (lv' := [(4, vi x4)]) [3] rfl ?_
          cases hs
          exact he0 _ rfl
set_option maxRecDepth 100000 in
theorem q_Hx_findThreat_l32 {C : Cx} {nx : Nat} (hnx : 80 ≤ nx) (x2 : Int) (x3 : Int) (x4 : Int) (s : Sg) {o : Int × Sg} (hs : Hx_findThreat_l32 x2 x3 x4 s = some o) : ww C M_X11_findThreat 3 0 0 nx (QI nx o.2 o.1) (XF) nx 0 0 32 [(0, .ref 0), (2, vi x2), (3, vi x3), (4, vi x4)] [] (hp nx s) := by
  unfold Hx_findThreat_l32 at hs
  refine bnd_e hs (fun ρ hw hs => ?_)
  rcases ρ with x4_6 | ⟨⟩
  · have hE : ww C M_X11_findThreat 3 0 0 nx (QI nx o.2 o.1) (XF) nx 0 0 74 [(4, vi x4_6)] [] (hp nx s) := by
      refine w_iload 0 dX11_findThreat_74 rfl ?_
      cases hs
      exact x_ireturn dX11_findThreat_76 rfl rfl (Nat.le_of_ble_eq_true rfl) (Nat.le_of_ble_eq_true rfl) ⟨rfl, rfl⟩
    refine whl_w (P := fun σ => ww C M_X11_findThreat 3 0 0 nx (QI nx o.2 o.1) (XF) nx 0 0 32 [(0, .ref 0), (2, vi x2), (3, vi σ.1), (4, vi σ.2)] [] (hp nx s)) (E := fun ρ => ρ = (.inl x4_6)) hw rfl ?_
    intro σ o' hs' hb' he'
    exact q_Hx_findThreat_t32 hnx x2 σ.1 σ.2 s hs' hb' (fun ρ e => by cases he' _ e; exact hE) (fun ρ e => by cases he' _ e)
  · have hE : ww C M_X11_findThreat 3 0 0 nx (QI nx o.2 o.1) (XF) nx 0 0 86 [] [] (hp nx s) := by
      refine x_iconst dX11_findThreat_86 ?_
      cases hs
      exact x_ireturn dX11_findThreat_87 rfl rfl (Nat.le_of_ble_eq_true rfl) (Nat.le_of_ble_eq_true rfl) ⟨rfl, rfl⟩
    refine whl_w (P := fun σ => ww C M_X11_findThreat 3 0 0 nx (QI nx o.2 o.1) (XF) nx 0 0 32 [(0, .ref 0), (2, vi x2), (3, vi σ.1), (4, vi σ.2)] [] (hp nx s)) (E := fun ρ => ρ = (.inr ())) hw rfl ?_
    intro σ o' hs' hb' he'
    exact q_Hx_findThreat_t32 hnx x2 σ.1 σ.2 s hs' hb' (fun ρ e => by cases he' _ e) (fun ρ e => by cases he' _ e; exact hE)
set_option maxRecDepth 100000 in
theorem c_Hx_findThreat {C : Cx} {nx : Nat} (hnx : 80 ≤ nx) (x1 : Int) (x2 : Int) (s : Sg) : ∀ o, Hx_findThreat x1 x2 s = some o → mm C M_X11_findThreat 3 0 0 nx nx [.ref 0, vi x1, vi x2] (hp nx s) (QI nx o.2 o.1) (XF) := by
  intro o hs
  unfold Hx_findThreat at hs
  refine mm_of rfl rfl (Nat.le_of_ble_eq_true rfl) ?_
  show ww C M_X11_findThreat 3 0 0 nx (QI nx o.2 o.1) (XF) nx 0 0 0 [(0, .ref 0), (1, vi x1), (2, vi x2)] [] (hp nx s)
  refine w_aload_n 0 dX11_findThreat_0 rfl rfl ?_
  refine x_getR 11 1 (b := 5) dX11_findThreat_1 (fxX11_21 rfl) rfl rfl (lt_of hnx (Nat.le_of_ble_eq_true rfl)) rfl ?_
  refine w_aload_n 0 dX11_findThreat_4 rfl rfl ?_
  refine x_getR 11 2 (b := 10) dX11_findThreat_5 (fxX11_28 rfl) rfl rfl (lt_of hnx (Nat.le_of_ble_eq_true rfl)) rfl ?_
  refine x_getR 9 0 (b := 11) dX11_findThreat_8 (fxX11_194 rfl) rfl rfl (lt_of hnx (Nat.le_of_ble_eq_true rfl)) rfl ?_
  refine w_iload_n 1 dX11_findThreat_11 rfl rfl ?_
  refine x_V_V M_X7_gather [.ref 11, vi x1] [] hs rfl dX11_findThreat_12 (lkX11_198 _ rfl) (lt_of hnx (Nat.le_of_ble_eq_true rfl)) rfl rfl (Nat.le_of_ble_eq_true rfl) (Nat.le_of_ble_eq_true rfl) (Nat.le_of_ble_eq_true rfl) (Nat.le_of_ble_eq_true rfl) (c_Li_gather hnx 11 (Or.inl (rowW_of rfl (lt_of hnx (Nat.le_of_ble_eq_true rfl)))) x1 s) (fun s2 hs2 hs => ?_)
  refine w_aload_n 0 dX11_findThreat_15 rfl rfl ?_
  refine x_getR 11 1 (b := 5) dX11_findThreat_16 (fxX11_21 rfl) rfl rfl (lt_of hnx (Nat.le_of_ble_eq_true rfl)) rfl ?_
  refine x_V_I M_X7_joined [] [] hs rfl dX11_findThreat_19 (lkX11_247 _ rfl) (lt_of hnx (Nat.le_of_ble_eq_true rfl)) rfl rfl (Nat.le_of_ble_eq_true rfl) (Nat.le_of_ble_eq_true rfl) (Nat.le_of_ble_eq_true rfl) (Nat.le_of_ble_eq_true rfl) (c_Li_joined hnx s2) (fun y3 hy3 hs => ?_)
  refine x_ifeq hs dX11_findThreat_22 rfl (fun hs => ?_) (fun hs => ?_)
  · refine x_iconst dX11_findThreat_27 ?_
    refine w_istore_n (lv' := [(3, vi 0), (0, .ref 0), (1, vi x1), (2, vi x2)]) dX11_findThreat_28 rfl (Nat.le_of_ble_eq_true rfl) rfl ?_
    refine x_iconst dX11_findThreat_29 ?_
    refine w_istore (lv' := [(4, vi 0), (3, vi 0), (0, .ref 0), (1, vi x1), (2, vi x2)]) dX11_findThreat_30 (Nat.le_of_ble_eq_true rfl) rfl ?_
    refine w_lv (lv' := [(0, .ref 0), (2, vi x2), (3, vi 0), (4, vi 0)]) [2, 4, 1, 0] rfl ?_
    exact q_Hx_findThreat_l32 hnx x2 0 0 s2 hs
  · refine x_iconst dX11_findThreat_25 ?_
    cases hs
    exact x_ireturn dX11_findThreat_26 rfl rfl (Nat.le_of_ble_eq_true rfl) (Nat.le_of_ble_eq_true rfl) ⟨rfl, rfl⟩
set_option maxRecDepth 100000 in
theorem c_Hx_threat {C : Cx} {nx : Nat} (hnx : 80 ≤ nx) (x1 : Int) (x2 : Int) (s : Sg) : ∀ o, Hx_threat x1 x2 s = some o → mm C M_X11_threat 10 0 0 nx nx [.ref 0, vi x1, vi x2] (hp nx s) (QT nx o) (XF) := by
  intro o hs
  unfold Hx_threat at hs
  refine mm_of rfl rfl (Nat.le_of_ble_eq_true rfl) ?_
  show ww C M_X11_threat 10 0 0 nx (QT nx o) (XF) nx 0 0 0 [(0, .ref 0), (1, vi x1), (2, vi x2)] [] (hp nx s)
  refine w_iload_n 1 dX11_threat_0 rfl rfl ?_
  refine x_S_U M_X11_requireSide [vi x1] [] hs rfl dX11_threat_1 (lkX11_211 _ rfl) (Nat.le_of_ble_eq_true rfl) (Nat.le_of_ble_eq_true rfl) (Nat.le_of_ble_eq_true rfl) (Nat.le_of_ble_eq_true rfl) (c_Hx_requireSide hnx x1 s) (fun y1 s2 hy1 hs => ?_)
  refine w_aload_n 0 dX11_threat_4 rfl rfl ?_
  refine w_iload_n 1 dX11_threat_5 rfl rfl ?_
  refine w_iload_n 2 dX11_threat_6 rfl rfl ?_
  refine x_V_B M_X11_findThreat [vi x1, vi x2] [] hs rfl dX11_threat_7 (lkX11_259 _ rfl) (lt_of hnx (Nat.le_of_ble_eq_true rfl)) rfl rfl (Nat.le_of_ble_eq_true rfl) (Nat.le_of_ble_eq_true rfl) (Nat.le_of_ble_eq_true rfl) (Nat.le_of_ble_eq_true rfl) (c_Hx_findThreat hnx x1 x2 s2) (fun y3 s4 hy3 hs => ?_)
  cases hs
  exact x_ireturn dX11_threat_10 rfl rfl (Nat.le_of_ble_eq_true rfl) (Nat.le_of_ble_eq_true rfl) ⟨_, rfl, rfl, rfl⟩
set_option maxRecDepth 100000 in
theorem c_Hx_answerToLatestMove {C : Cx} {nx : Nat} (hnx : 80 ≤ nx) (x1 : Int) (s : Sg) : ∀ o, Hx_answerToLatestMove x1 s = some o → mm C M_X11_answerToLatestMove 4 0 0 nx nx [.ref 0, vi x1] (hp nx s) (QI nx o.2 o.1) (XF) := by
  intro o hs
  unfold Hx_answerToLatestMove at hs
  refine mm_of rfl rfl (Nat.le_of_ble_eq_true rfl) ?_
  show ww C M_X11_answerToLatestMove 4 0 0 nx (QI nx o.2 o.1) (XF) nx 0 0 0 [(0, .ref 0), (1, vi x1)] [] (hp nx s)
  refine w_aload_n 0 dX11_answerToLatestMove_0 rfl rfl ?_
  refine x_getR 11 2 (b := 10) dX11_answerToLatestMove_1 (fxX11_28 rfl) rfl rfl (lt_of hnx (Nat.le_of_ble_eq_true rfl)) rfl ?_
  refine w_aload_n 0 dX11_answerToLatestMove_4 rfl rfl ?_
  refine x_getR 11 2 (b := 10) dX11_answerToLatestMove_5 (fxX11_28 rfl) rfl rfl (lt_of hnx (Nat.le_of_ble_eq_true rfl)) rfl ?_
  refine x_getI 9 4 dX11_answerToLatestMove_8 (fxX11_155 rfl) rfl rfl (lt_of hnx (Nat.le_of_ble_eq_true rfl)) ?_
  refine x_iconst dX11_answerToLatestMove_11 ?_
  refine x_isub dX11_answerToLatestMove_12 ?_
  refine x_V_I M_X9_moved [vi ((gi s 10 4) - 1)] [] hs rfl dX11_answerToLatestMove_13 (lkX11_309 _ rfl) (lt_of hnx (Nat.le_of_ble_eq_true rfl)) rfl rfl (Nat.le_of_ble_eq_true rfl) (Nat.le_of_ble_eq_true rfl) (Nat.le_of_ble_eq_true rfl) (Nat.le_of_ble_eq_true rfl) (c_Po_moved hnx 10 (show 10 ∈ posL by decide) ((gi s 10 4) - 1) s) (fun y1 hy1 hs => ?_)
  refine w_istore_n (lv' := [(2, vi y1), (0, .ref 0), (1, vi x1)]) dX11_answerToLatestMove_16 rfl (Nat.le_of_ble_eq_true rfl) rfl ?_
  refine w_iload_n 0 dX11_answerToLatestMove_17 rfl rfl ?_
  refine x_iconst dX11_answerToLatestMove_18 ?_
  refine x_icmpeq hs dX11_answerToLatestMove_19 rfl (fun hs => ?_) (fun hs => ?_)
  · refine x_iconst dX11_answerToLatestMove_34 ?_
    cases hs
    exact x_ireturn dX11_answerToLatestMove_35 rfl rfl (Nat.le_of_ble_eq_true rfl) (Nat.le_of_ble_eq_true rfl) ⟨rfl, rfl⟩
  · refine w_aload_n 1 dX11_answerToLatestMove_22 rfl rfl ?_
    refine x_getR 11 2 (b := 10) dX11_answerToLatestMove_23 (fxX11_28 rfl) rfl rfl (lt_of hnx (Nat.le_of_ble_eq_true rfl)) rfl ?_
    refine w_iload_n 0 dX11_answerToLatestMove_26 rfl rfl ?_
    refine x_V_I M_X9_stone [vi y1] [] hs rfl dX11_answerToLatestMove_27 (lkX11_183 _ rfl) (lt_of hnx (Nat.le_of_ble_eq_true rfl)) rfl rfl (Nat.le_of_ble_eq_true rfl) (Nat.le_of_ble_eq_true rfl) (Nat.le_of_ble_eq_true rfl) (Nat.le_of_ble_eq_true rfl) (c_Po_stone hnx 10 (show 10 ∈ posL by decide) y1 s) (fun y2 hy2 hs => ?_)
    refine w_iload_n 2 dX11_answerToLatestMove_30 rfl rfl ?_
    refine x_icmpeq hs dX11_answerToLatestMove_31 rfl (fun hs => ?_) (fun hs => ?_)
    · refine w_aload_n 1 dX11_answerToLatestMove_36 rfl rfl ?_
      refine x_getR 11 2 (b := 10) dX11_answerToLatestMove_37 (fxX11_28 rfl) rfl rfl (lt_of hnx (Nat.le_of_ble_eq_true rfl)) rfl ?_
      refine w_iload_n 0 dX11_answerToLatestMove_40 rfl rfl ?_
      refine x_iconst dX11_answerToLatestMove_41 ?_
      refine x_V_V M_X9_place [vi y1, vi (-1)] [] hs rfl dX11_answerToLatestMove_42 (lkX11_318 _ rfl) (lt_of hnx (Nat.le_of_ble_eq_true rfl)) rfl rfl (Nat.le_of_ble_eq_true rfl) (Nat.le_of_ble_eq_true rfl) (Nat.le_of_ble_eq_true rfl) (Nat.le_of_ble_eq_true rfl) (c_Po_place hnx 10 (show 10 ∈ posL by decide) y1 (-1) s) (fun s4 hs4 hs => ?_)
      refine w_aload_n 1 dX11_answerToLatestMove_45 rfl rfl ?_
      refine x_getR 11 10 (b := 56) dX11_answerToLatestMove_46 (fxX11_72 rfl) rfl rfl (lt_of hnx (Nat.le_of_ble_eq_true rfl)) rfl ?_
      refine w_aload_n 1 dX11_answerToLatestMove_49 rfl rfl ?_
      refine x_getR 11 2 (b := 10) dX11_answerToLatestMove_50 (fxX11_28 rfl) rfl rfl (lt_of hnx (Nat.le_of_ble_eq_true rfl)) rfl ?_
      refine x_getR 9 0 (b := 11) dX11_answerToLatestMove_53 (fxX11_194 rfl) rfl rfl (lt_of hnx (Nat.le_of_ble_eq_true rfl)) rfl ?_
      refine w_aload_n 1 dX11_answerToLatestMove_56 rfl rfl ?_
      refine x_getR 11 2 (b := 10) dX11_answerToLatestMove_57 (fxX11_28 rfl) rfl rfl (lt_of hnx (Nat.le_of_ble_eq_true rfl)) rfl ?_
      refine x_getI 9 5 dX11_answerToLatestMove_60 (fxX11_158 rfl) rfl rfl (lt_of hnx (Nat.le_of_ble_eq_true rfl)) ?_
      refine x_V_V M_X0_find [.ref 11, vi (gi s4 10 5)] [] hs rfl dX11_answerToLatestMove_63 (lkX11_220 _ rfl) (lt_of hnx (Nat.le_of_ble_eq_true rfl)) rfl rfl (Nat.le_of_ble_eq_true rfl) (Nat.le_of_ble_eq_true rfl) (Nat.le_of_ble_eq_true rfl) (Nat.le_of_ble_eq_true rfl) (c_Bl_find hnx 11 (Or.inl (rowW_of rfl (lt_of hnx (Nat.le_of_ble_eq_true rfl)))) (gi s4 10 5) s4) (fun s6 hs6 hs => ?_)
      refine w_aload_n 1 dX11_answerToLatestMove_66 rfl rfl ?_
      refine x_getR 11 10 (b := 56) dX11_answerToLatestMove_67 (fxX11_72 rfl) rfl rfl (lt_of hnx (Nat.le_of_ble_eq_true rfl)) rfl ?_
      refine w_iload_n 0 dX11_answerToLatestMove_70 rfl rfl ?_
      refine x_V_I M_X0_otherCarrier [vi y1] [] hs rfl dX11_answerToLatestMove_71 (lkX11_253 _ rfl) (lt_of hnx (Nat.le_of_ble_eq_true rfl)) rfl rfl (Nat.le_of_ble_eq_true rfl) (Nat.le_of_ble_eq_true rfl) (Nat.le_of_ble_eq_true rfl) (Nat.le_of_ble_eq_true rfl) (c_Bl_otherCarrier hnx y1 s6) (fun y7 hy7 hs => ?_)
      refine w_istore_n (lv' := [(3, vi y7), (2, vi y1), (0, .ref 0), (1, vi x1)]) dX11_answerToLatestMove_74 rfl (Nat.le_of_ble_eq_true rfl) rfl ?_
      refine w_aload_n 2 dX11_answerToLatestMove_75 rfl rfl ?_
      refine x_getR 11 2 (b := 10) dX11_answerToLatestMove_76 (fxX11_28 rfl) rfl rfl (lt_of hnx (Nat.le_of_ble_eq_true rfl)) rfl ?_
      refine w_iload_n 1 dX11_answerToLatestMove_79 rfl rfl ?_
      refine w_iload_n 3 dX11_answerToLatestMove_80 rfl rfl ?_
      refine x_V_V M_X9_place [vi y1, vi x1] [] hs rfl dX11_answerToLatestMove_81 (lkX11_318 _ rfl) (lt_of hnx (Nat.le_of_ble_eq_true rfl)) rfl rfl (Nat.le_of_ble_eq_true rfl) (Nat.le_of_ble_eq_true rfl) (Nat.le_of_ble_eq_true rfl) (Nat.le_of_ble_eq_true rfl) (c_Po_place hnx 10 (show 10 ∈ posL by decide) y1 x1 s6) (fun s9 hs9 hs => ?_)
      refine w_iload_n 0 dX11_answerToLatestMove_84 rfl rfl ?_
      cases hs
      exact x_ireturn dX11_answerToLatestMove_85 rfl rfl (Nat.le_of_ble_eq_true rfl) (Nat.le_of_ble_eq_true rfl) ⟨rfl, rfl⟩
    · refine x_iconst dX11_answerToLatestMove_34 ?_
      cases hs
      exact x_ireturn dX11_answerToLatestMove_35 rfl rfl (Nat.le_of_ble_eq_true rfl) (Nat.le_of_ble_eq_true rfl) ⟨rfl, rfl⟩
set_option maxRecDepth 100000 in
theorem c_Hx_forcedCell {C : Cx} {nx : Nat} (hnx : 80 ≤ nx)  (s : Sg) : ∀ o, Hx_forcedCell  s = some o → mm C M_X11_forcedCell 5 0 0 nx nx [.ref 0] (hp nx s) (QI nx o.2 o.1) (XF) := by
  intro o hs
  unfold Hx_forcedCell at hs
  refine mm_of rfl rfl (Nat.le_of_ble_eq_true rfl) ?_
  show ww C M_X11_forcedCell 5 0 0 nx (QI nx o.2 o.1) (XF) nx 0 0 0 [(0, .ref 0)] [] (hp nx s)
  refine w_aload_n 0 dX11_forcedCell_0 rfl rfl ?_
  refine x_V_B M_X11_winner [] [] hs rfl dX11_forcedCell_1 (lkX11_161 _ rfl) (lt_of hnx (Nat.le_of_ble_eq_true rfl)) rfl rfl (Nat.le_of_ble_eq_true rfl) (Nat.le_of_ble_eq_true rfl) (Nat.le_of_ble_eq_true rfl) (Nat.le_of_ble_eq_true rfl) (c_Hx_winner hnx s) (fun y1 s2 hy1 hs => ?_)
  refine x_iconst dX11_forcedCell_4 ?_
  refine x_icmpeq hs dX11_forcedCell_5 rfl (fun hs => ?_) (fun hs => ?_)
  · refine w_aload_n 0 dX11_forcedCell_10 rfl rfl ?_
    refine w_aload_n 0 dX11_forcedCell_11 rfl rfl ?_
    refine x_getR 11 2 (b := 10) dX11_forcedCell_12 (fxX11_28 rfl) rfl rfl (lt_of hnx (Nat.le_of_ble_eq_true rfl)) rfl ?_
    refine x_getI 9 5 dX11_forcedCell_15 (fxX11_158 rfl) rfl rfl (lt_of hnx (Nat.le_of_ble_eq_true rfl)) ?_
    refine x_iconst dX11_forcedCell_18 ?_
    refine x_V_B M_X11_findThreat [vi (gi s2 10 5), vi 0] [] hs rfl dX11_forcedCell_19 (lkX11_259 _ rfl) (lt_of hnx (Nat.le_of_ble_eq_true rfl)) rfl rfl (Nat.le_of_ble_eq_true rfl) (Nat.le_of_ble_eq_true rfl) (Nat.le_of_ble_eq_true rfl) (Nat.le_of_ble_eq_true rfl) (c_Hx_findThreat hnx (gi s2 10 5) 0 s2) (fun y3 s4 hy3 hs => ?_)
    refine w_istore_n (lv' := [(1, vi y3), (0, .ref 0)]) dX11_forcedCell_22 rfl (Nat.le_of_ble_eq_true rfl) rfl ?_
    refine w_iload_n 0 dX11_forcedCell_23 rfl rfl ?_
    refine x_iconst dX11_forcedCell_24 ?_
    refine x_icmpeq hs dX11_forcedCell_25 rfl (fun hs => ?_) (fun hs => ?_)
    · refine w_aload_n 1 dX11_forcedCell_30 rfl rfl ?_
      refine x_getR 11 2 (b := 10) dX11_forcedCell_31 (fxX11_28 rfl) rfl rfl (lt_of hnx (Nat.le_of_ble_eq_true rfl)) rfl ?_
      refine x_getI 9 5 dX11_forcedCell_34 (fxX11_158 rfl) rfl rfl (lt_of hnx (Nat.le_of_ble_eq_true rfl)) ?_
      refine x_S_I M_X11_otherSide [vi (gi s4 10 5)] [] hs rfl dX11_forcedCell_37 (lkX11_250 _ rfl) (Nat.le_of_ble_eq_true rfl) (Nat.le_of_ble_eq_true rfl) (Nat.le_of_ble_eq_true rfl) (Nat.le_of_ble_eq_true rfl) (c_Hx_otherSide hnx (gi s4 10 5) s4) (fun y5 hy5 hs => ?_)
      refine w_istore_n (lv' := [(2, vi y5), (1, vi y3), (0, .ref 0)]) dX11_forcedCell_40 rfl (Nat.le_of_ble_eq_true rfl) rfl ?_
      refine w_aload_n 2 dX11_forcedCell_41 rfl rfl ?_
      refine w_iload_n 0 dX11_forcedCell_42 rfl rfl ?_
      refine x_V_B M_X11_countThreats [vi y5] [] hs rfl dX11_forcedCell_43 (lkX11_256 _ rfl) (lt_of hnx (Nat.le_of_ble_eq_true rfl)) rfl rfl (Nat.le_of_ble_eq_true rfl) (Nat.le_of_ble_eq_true rfl) (Nat.le_of_ble_eq_true rfl) (Nat.le_of_ble_eq_true rfl) (c_Hx_countThreats hnx y5 s4) (fun y6 s7 hy6 hs => ?_)
      refine w_istore_n (lv' := [(3, vi y6), (2, vi y5), (1, vi y3), (0, .ref 0)]) dX11_forcedCell_46 rfl (Nat.le_of_ble_eq_true rfl) rfl ?_
      refine w_iload_n 0 dX11_forcedCell_47 rfl rfl ?_
      refine x_ifle hs dX11_forcedCell_48 rfl (fun hs => ?_) (fun hs => ?_)
      · refine w_aload_n 3 dX11_forcedCell_67 rfl rfl ?_
        refine w_iload_n 1 dX11_forcedCell_68 rfl rfl ?_
        refine x_V_B M_X11_answerToLatestMove [vi y5] [] hs rfl dX11_forcedCell_69 (lkX11_377 _ rfl) (lt_of hnx (Nat.le_of_ble_eq_true rfl)) rfl rfl (Nat.le_of_ble_eq_true rfl) (Nat.le_of_ble_eq_true rfl) (Nat.le_of_ble_eq_true rfl) (Nat.le_of_ble_eq_true rfl) (c_Hx_answerToLatestMove hnx y5 s7) (fun y8 s9 hy8 hs => ?_)
        cases hs
        exact x_ireturn dX11_forcedCell_72 rfl rfl (Nat.le_of_ble_eq_true rfl) (Nat.le_of_ble_eq_true rfl) ⟨rfl, rfl⟩
      · refine w_iload_n 0 dX11_forcedCell_51 rfl rfl ?_
        refine x_iconst dX11_forcedCell_52 ?_
        refine x_icmpne hs dX11_forcedCell_53 rfl (fun hs => ?_) (fun hs => ?_)
        · refine x_iconst dX11_forcedCell_65 ?_
          cases hs
          exact x_ireturn dX11_forcedCell_66 rfl rfl (Nat.le_of_ble_eq_true rfl) (Nat.le_of_ble_eq_true rfl) ⟨rfl, rfl⟩
        · refine w_aload_n 3 dX11_forcedCell_56 rfl rfl ?_
          refine w_iload_n 1 dX11_forcedCell_57 rfl rfl ?_
          refine x_iconst dX11_forcedCell_58 ?_
          refine x_V_B M_X11_findThreat [vi y5, vi 0] [] hs rfl dX11_forcedCell_59 (lkX11_259 _ rfl) (lt_of hnx (Nat.le_of_ble_eq_true rfl)) rfl rfl (Nat.le_of_ble_eq_true rfl) (Nat.le_of_ble_eq_true rfl) (Nat.le_of_ble_eq_true rfl) (Nat.le_of_ble_eq_true rfl) (c_Hx_findThreat hnx y5 0 s7) (fun y10 s11 hy10 hs => ?_)
          refine w_goto dX11_forcedCell_62 rfl ?_
          cases hs
          exact x_ireturn dX11_forcedCell_66 rfl rfl (Nat.le_of_ble_eq_true rfl) (Nat.le_of_ble_eq_true rfl) ⟨rfl, rfl⟩
    · refine w_iload_n 0 dX11_forcedCell_28 rfl rfl ?_
      cases hs
      exact x_ireturn dX11_forcedCell_29 rfl rfl (Nat.le_of_ble_eq_true rfl) (Nat.le_of_ble_eq_true rfl) ⟨rfl, rfl⟩
  · refine x_iconst dX11_forcedCell_8 ?_
    cases hs
    exact x_ireturn dX11_forcedCell_9 rfl rfl (Nat.le_of_ble_eq_true rfl) (Nat.le_of_ble_eq_true rfl) ⟨rfl, rfl⟩
set_option maxRecDepth 100000 in
theorem c_Hx_forced {C : Cx} {nx : Nat} (hnx : 80 ≤ nx)  (s : Sg) : ∀ o, Hx_forced  s = some o → mm C M_X11_forced 6 0 0 nx nx [.ref 0] (hp nx s) (QI nx o.2 o.1) (XF) := by
  intro o hs
  unfold Hx_forced at hs
  refine mm_of rfl rfl (Nat.le_of_ble_eq_true rfl) ?_
  show ww C M_X11_forced 6 0 0 nx (QI nx o.2 o.1) (XF) nx 0 0 0 [(0, .ref 0)] [] (hp nx s)
  refine w_aload_n 0 dX11_forced_0 rfl rfl ?_
  refine x_V_B M_X11_forcedCell [] [] hs rfl dX11_forced_1 (lkX11_262 _ rfl) (lt_of hnx (Nat.le_of_ble_eq_true rfl)) rfl rfl (Nat.le_of_ble_eq_true rfl) (Nat.le_of_ble_eq_true rfl) (Nat.le_of_ble_eq_true rfl) (Nat.le_of_ble_eq_true rfl) (c_Hx_forcedCell hnx s) (fun y1 s2 hy1 hs => ?_)
  cases hs
  exact x_ireturn dX11_forced_4 rfl rfl (Nat.le_of_ble_eq_true rfl) (Nat.le_of_ble_eq_true rfl) ⟨rfl, rfl⟩
set_option maxRecDepth 100000 in
theorem q_Pa_lower_b76 {C : Cx} {nx : Nat} (hnx : 80 ≤ nx) {Qr : Option Value → Hp → Prop} {Qx : String → Hp → Prop}  (r0 : Nat) (h_r0 : isPaths r0) (r1 : Nat) (h_r1 : isRowW nx r1) (x2 : Int) (x3 : Int) (x4 : Int) (x5 : Int) (s : Sg) {o : ((Int × Int) ⊕ (Int))} (hs : Pa_lower_b76 r0 r1 x2 x3 x4 x5 s = some o) (hb : ∀ σ : Int × Int, o = .inl σ → ww C M_X8_lower 1 0 0 nx (Qr) (Qx) nx 0 0 26 [(0, .ref r0), (1, .ref r1), (2, vi x2), (3, vi x3), (4, vi σ.1), (5, vi σ.2)] [] (hp nx s)) (he0 : ∀ ρ : Int, o = .inr ρ → ww C M_X8_lower 1 0 0 nx (Qr) (Qx) nx 0 0 82 [(1, .ref r1), (2, vi x2), (4, vi ρ)] [] (hp nx s)) : ww C M_X8_lower 1 0 0 nx (Qr) (Qx) nx 0 0 76 [(0, .ref r0), (1, .ref r1), (2, vi x2), (3, vi x3), (4, vi x4), (5, vi x5)] [] (hp nx s) := by
  unfold Pa_lower_b76 at hs
  refine x_iinc (lv' := [(5, vi (x5 + 1)), (0, .ref r0), (1, .ref r1), (2, vi x2), (3, vi x3), (4, vi x4)]) 5 dX8_lower_76 rfl (Nat.le_of_ble_eq_true rfl) rfl ?_
  refine w_goto dX8_lower_79 rfl ?_
  refine w_lv (lv' := [(0, .ref r0), (1, .ref r1), (2, vi x2), (3, vi x3), (4, vi x4), (5, vi (x5 + 1))]) [1, 2, 3, 4, 5, 0] rfl ?_
  cases hs
  exact hb _ rfl
set_option maxRecDepth 100000 in
theorem q_Pa_lower_b70 {C : Cx} {nx : Nat} (hnx : 80 ≤ nx) {Qr : Option Value → Hp → Prop} {Qx : String → Hp → Prop}  (r0 : Nat) (h_r0 : isPaths r0) (r1 : Nat) (h_r1 : isRowW nx r1) (x2 : Int) (x3 : Int) (x5 : Int) (x6 : Int) (s : Sg) {o : ((Int × Int) ⊕ (Int))} (hs : Pa_lower_b70 r0 r1 x2 x3 x5 x6 s = some o) (hb : ∀ σ : Int × Int, o = .inl σ → ww C M_X8_lower 1 0 0 nx (Qr) (Qx) nx 0 0 26 [(0, .ref r0), (1, .ref r1), (2, vi x2), (3, vi x3), (4, vi σ.1), (5, vi σ.2)] [] (hp nx s)) (he0 : ∀ ρ : Int, o = .inr ρ → ww C M_X8_lower 1 0 0 nx (Qr) (Qx) nx 0 0 82 [(1, .ref r1), (2, vi x2), (4, vi ρ)] [] (hp nx s)) : ww C M_X8_lower 1 0 0 nx (Qr) (Qx) nx 0 0 70 [(0, .ref r0), (1, .ref r1), (2, vi x2), (3, vi x3), (5, vi x5), (6, vi x6)] [] (hp nx s) := by
  unfold Pa_lower_b70 at hs
  refine w_iload 5 dX8_lower_70 rfl ?_
  refine w_iload_n 3 dX8_lower_72 rfl rfl ?_
  refine x_iadd dX8_lower_73 ?_
  refine x_istore (fun x4_5 => [(4, vi x4_5), (0, .ref r0), (1, .ref r1), (2, vi x2), (3, vi x3), (5, vi x5), (6, vi x6)]) hs dX8_lower_74 (Nat.le_of_ble_eq_true rfl) (fun _ => rfl) (fun x4_5 hs => ?_)
  refine w_lv (lv' := [(0, .ref r0), (1, .ref r1), (2, vi x2), (3, vi x3), (4, vi x4_5), (5, vi x5)]) [1, 2, 3, 4, 0, 5] rfl ?_
  exact q_Pa_lower_b76 hnx r0 h_r0 r1 h_r1 x2 x3 x4_5 x5 s hs hb he0
set_option maxRecDepth 100000 in
theorem q_Pa_lower_t26 {C : Cx} {nx : Nat} (hnx : 80 ≤ nx) {Qr : Option Value → Hp → Prop} {Qx : String → Hp → Prop}  (r0 : Nat) (h_r0 : isPaths r0) (r1 : Nat) (h_r1 : isRowW nx r1) (x2 : Int) (x3 : Int) (x4 : Int) (x5 : Int) (s : Sg) {o : ((Int × Int) ⊕ (Int))} (hs : Pa_lower_t26 r0 r1 x2 x3 x4 x5 s = some o) (hb : ∀ σ : Int × Int, o = .inl σ → ww C M_X8_lower 1 0 0 nx (Qr) (Qx) nx 0 0 26 [(0, .ref r0), (1, .ref r1), (2, vi x2), (3, vi x3), (4, vi σ.1), (5, vi σ.2)] [] (hp nx s)) (he0 : ∀ ρ : Int, o = .inr ρ → ww C M_X8_lower 1 0 0 nx (Qr) (Qx) nx 0 0 82 [(1, .ref r1), (2, vi x2), (4, vi ρ)] [] (hp nx s)) : ww C M_X8_lower 1 0 0 nx (Qr) (Qx) nx 0 0 26 [(0, .ref r0), (1, .ref r1), (2, vi x2), (3, vi x3), (4, vi x4), (5, vi x5)] [] (hp nx s) := by
  unfold Pa_lower_t26 at hs
  refine w_iload 5 dX8_lower_26 rfl ?_
  refine x_bipush dX8_lower_28 (by decide) ?_
  refine x_icmpge hs dX8_lower_30 rfl (fun hs => ?_) (fun hs => ?_)
  · refine w_lv (lv' := [(1, .ref r1), (2, vi x2), (4, vi x4)]) [1, 2, 4] rfl ?_
    cases hs
    exact he0 _ rfl
  · refine w_aload_n 1 dX8_lower_33 rfl rfl ?_
    refine w_aload_n 0 dX8_lower_34 rfl rfl ?_
    refine x_getR 8 0 (b := 1) dX8_lower_35 (fxX8_9 rfl) rfl (paths_s0 h_r0) (paths_n (j := 0) h_r0 (by decide) hnx) (paths_r0 h_r0) ?_
    refine w_iload_n 2 dX8_lower_38 rfl rfl ?_
    refine w_iload 5 dX8_lower_39 rfl ?_
    refine x_V_I M_X5_near [vi x2, vi x5] [.ref r1] hs rfl dX8_lower_41 (lkX8_50 _ rfl) (lt_of hnx (Nat.le_of_ble_eq_true rfl)) rfl rfl (Nat.le_of_ble_eq_true rfl) (Nat.le_of_ble_eq_true rfl) (Nat.le_of_ble_eq_true rfl) (Nat.le_of_ble_eq_true rfl) (c_Gr_near hnx x2 x5 s) (fun y3 hy3 hs => ?_)
    refine x_N_I M_X11_at [.ref r1, vi y3] [] hs rfl dX8_lower_44 (lkX8_31 _ rfl) (Nat.le_of_ble_eq_true rfl) (Nat.le_of_ble_eq_true rfl) (Nat.le_of_ble_eq_true rfl) (Nat.le_of_ble_eq_true rfl) (c_Hx_at hnx r1 (Or.inl h_r1) y3 s) (fun y4 hy4 hs => ?_)
    refine w_istore (lv' := [(6, vi y4), (0, .ref r0), (1, .ref r1), (2, vi x2), (3, vi x3), (4, vi x4), (5, vi x5)]) dX8_lower_47 (Nat.le_of_ble_eq_true rfl) rfl ?_
    refine w_iload 0 dX8_lower_49 rfl ?_
    refine x_iconst dX8_lower_51 ?_
    refine x_icmpeq hs dX8_lower_52 rfl (fun hs => ?_) (fun hs => ?_)
    · refine w_lv (lv' := [(0, .ref r0), (1, .ref r1), (2, vi x2), (3, vi x3), (4, vi x4), (5, vi x5)]) [1, 2, 3, 4, 5, 6] rfl ?_
      exact q_Pa_lower_b76 hnx r0 h_r0 r1 h_r1 x2 x3 x4 x5 s hs hb he0
    · refine w_iload 5 dX8_lower_55 rfl ?_
      refine x_iconst dX8_lower_57 ?_
      refine x_icmpeq hs dX8_lower_58 rfl (fun hs => ?_) (fun hs => ?_)
      · refine w_lv (lv' := [(0, .ref r0), (1, .ref r1), (2, vi x2), (3, vi x3), (5, vi x5), (6, vi y4)]) [1, 2, 3, 4, 6, 0] rfl ?_
        exact q_Pa_lower_b70 hnx r0 h_r0 r1 h_r1 x2 x3 x5 y4 s hs hb he0
      · refine w_iload 0 dX8_lower_61 rfl ?_
        refine w_iload_n 4 dX8_lower_63 rfl rfl ?_
        refine x_iadd dX8_lower_64 ?_
        refine w_iload 5 dX8_lower_65 rfl ?_
        refine x_icmpge hs dX8_lower_67 rfl (fun hs => ?_) (fun hs => ?_)
        · refine w_lv (lv' := [(0, .ref r0), (1, .ref r1), (2, vi x2), (3, vi x3), (4, vi x4), (5, vi x5)]) [1, 2, 3, 4, 5, 6] rfl ?_
          exact q_Pa_lower_b76 hnx r0 h_r0 r1 h_r1 x2 x3 x4 x5 s hs hb he0
        · refine w_lv (lv' := [(0, .ref r0), (1, .ref r1), (2, vi x2), (3, vi x3), (5, vi x5), (6, vi y4)]) [1, 2, 3, 4, 6, 0] rfl ?_
          exact q_Pa_lower_b70 hnx r0 h_r0 r1 h_r1 x2 x3 x5 y4 s hs hb he0
set_option maxRecDepth 100000 in
theorem q_Pa_lower_b97 {C : Cx} {nx : Nat} (hnx : 80 ≤ nx) (r1 : Nat) (h_r1 : isRowW nx r1) (x2 : Int) (x4 : Int) (t0 : Int) (s : Sg) {o : Int × Sg} (hs : Pa_lower_b97 r1 x2 x4 t0 s = some o) : ww C M_X8_lower 1 0 0 nx (QI nx o.2 o.1) (XF) nx 0 0 97 [(1, .ref r1), (2, vi x2), (4, vi x4)] [vi t0] (hp nx s) := by
  unfold Pa_lower_b97 at hs
  refine w_istore (lv' := [(5, vi t0), (1, .ref r1), (2, vi x2), (4, vi x4)]) dX8_lower_97 (Nat.le_of_ble_eq_true rfl) rfl ?_
  refine w_aload_n 1 dX8_lower_99 rfl rfl ?_
  refine w_iload_n 2 dX8_lower_100 rfl rfl ?_
  refine w_iload 3 dX8_lower_101 rfl ?_
  refine x_N_V M_X11_set [.ref r1, vi x2, vi x4] [] hs rfl dX8_lower_103 (lkX8_35 _ rfl) (Nat.le_of_ble_eq_true rfl) (Nat.le_of_ble_eq_true rfl) (Nat.le_of_ble_eq_true rfl) (Nat.le_of_ble_eq_true rfl) (c_Hx_set hnx r1 h_r1 x2 x4 s) (fun s9 hs9 hs => ?_)
  refine w_iload 0 dX8_lower_106 rfl ?_
  refine grd_e hs (fun hg10 hs => ?_)
  cases hs
  exact x_zreturn hg10 dX8_lower_108 rfl rfl (Nat.le_of_ble_eq_true rfl) (Nat.le_of_ble_eq_true rfl) ⟨rfl, rfl⟩
set_option maxRecDepth 100000 in
theorem q_Pa_lower_l26 {C : Cx} {nx : Nat} (hnx : 80 ≤ nx) (r0 : Nat) (h_r0 : isPaths r0) (r1 : Nat) (h_r1 : isRowW nx r1) (x2 : Int) (x3 : Int) (x4 : Int) (x5 : Int) (s : Sg) {o : Int × Sg} (hs : Pa_lower_l26 r0 r1 x2 x3 x4 x5 s = some o) : ww C M_X8_lower 1 0 0 nx (QI nx o.2 o.1) (XF) nx 0 0 26 [(0, .ref r0), (1, .ref r1), (2, vi x2), (3, vi x3), (4, vi x4), (5, vi x5)] [] (hp nx s) := by
  unfold Pa_lower_l26 at hs
  refine bnd_e hs (fun x4_6 hw hs => ?_)
  have hE : ww C M_X8_lower 1 0 0 nx (QI nx o.2 o.1) (XF) nx 0 0 82 [(1, .ref r1), (2, vi x2), (4, vi x4_6)] [] (hp nx s) := by
    refine w_iload 2 dX8_lower_82 rfl ?_
    refine w_aload_n 0 dX8_lower_84 rfl rfl ?_
    refine w_iload_n 1 dX8_lower_85 rfl rfl ?_
    refine x_N_I M_X11_at [.ref r1, vi x2] [vi x4_6] hs rfl dX8_lower_86 (lkX8_31 _ rfl) (Nat.le_of_ble_eq_true rfl) (Nat.le_of_ble_eq_true rfl) (Nat.le_of_ble_eq_true rfl) (Nat.le_of_ble_eq_true rfl) (c_Hx_at hnx r1 (Or.inl h_r1) x2 s) (fun y7 hy7 hs => ?_)
    refine x_icmpeq hs dX8_lower_89 rfl (fun hs => ?_) (fun hs => ?_)
    · refine x_iconst dX8_lower_96 ?_
      exact q_Pa_lower_b97 hnx r1 h_r1 x2 x4_6 0 s hs
    · refine x_iconst dX8_lower_92 ?_
      refine w_goto dX8_lower_93 rfl ?_
      exact q_Pa_lower_b97 hnx r1 h_r1 x2 x4_6 1 s hs
  refine whl_w (P := fun σ => ww C M_X8_lower 1 0 0 nx (QI nx o.2 o.1) (XF) nx 0 0 26 [(0, .ref r0), (1, .ref r1), (2, vi x2), (3, vi x3), (4, vi σ.1), (5, vi σ.2)] [] (hp nx s)) (E := fun ρ => ρ = x4_6) hw rfl ?_
  intro σ o' hs' hb' he'
  exact q_Pa_lower_t26 hnx r0 h_r0 r1 h_r1 x2 x3 σ.1 σ.2 s hs' hb' (fun ρ e => by cases he' _ e; exact hE)
set_option maxRecDepth 100000 in
theorem c_Pa_lower {C : Cx} {nx : Nat} (hnx : 80 ≤ nx) (r0 : Nat) (h_r0 : isPaths r0) (r1 : Nat) (h_r1 : isRowW nx r1) (x2 : Int) (s : Sg) : ∀ o, Pa_lower r0 r1 x2 s = some o → mm C M_X8_lower 1 0 0 nx nx [.ref r0, .ref r1, vi x2] (hp nx s) (QI nx o.2 o.1) (XF) := by
  intro o hs
  unfold Pa_lower at hs
  refine mm_of rfl rfl (Nat.le_of_ble_eq_true rfl) ?_
  show ww C M_X8_lower 1 0 0 nx (QI nx o.2 o.1) (XF) nx 0 0 0 [(0, .ref r0), (1, .ref r1), (2, vi x2)] [] (hp nx s)
  refine w_aload_n 0 dX8_lower_0 rfl rfl ?_
  refine x_getR 8 1 (b := (r0 + 1)) dX8_lower_1 (fxX8_15 rfl) rfl (paths_s0 h_r0) (paths_n (j := 0) h_r0 (by decide) hnx) (paths_r1 h_r0) ?_
  refine w_iload_n 2 dX8_lower_4 rfl rfl ?_
  refine x_N_I M_X11_at [.ref (r0 + 1), vi x2] [] hs rfl dX8_lower_5 (lkX8_31 _ rfl) (Nat.le_of_ble_eq_true rfl) (Nat.le_of_ble_eq_true rfl) (Nat.le_of_ble_eq_true rfl) (Nat.le_of_ble_eq_true rfl) (c_Hx_at hnx (r0 + 1) (Or.inl (rowW_of (paths_s1 h_r0) (paths_n (j := 1) h_r0 (by decide) hnx))) x2 s) (fun y1 hy1 hs => ?_)
  refine w_istore_n (lv' := [(3, vi y1), (0, .ref r0), (1, .ref r1), (2, vi x2)]) dX8_lower_8 rfl (Nat.le_of_ble_eq_true rfl) rfl ?_
  refine w_aload_n 2 dX8_lower_9 rfl rfl ?_
  refine w_iload_n 3 dX8_lower_10 rfl rfl ?_
  refine x_N_I M_X11_at [.ref r1, vi x2] [] hs rfl dX8_lower_11 (lkX8_31 _ rfl) (Nat.le_of_ble_eq_true rfl) (Nat.le_of_ble_eq_true rfl) (Nat.le_of_ble_eq_true rfl) (Nat.le_of_ble_eq_true rfl) (c_Hx_at hnx r1 (Or.inl h_r1) x2 s) (fun y2 hy2 hs => ?_)
  refine w_istore (lv' := [(4, vi y2), (3, vi y1), (0, .ref r0), (1, .ref r1), (2, vi x2)]) dX8_lower_14 (Nat.le_of_ble_eq_true rfl) rfl ?_
  refine w_iload_n 1 dX8_lower_16 rfl rfl ?_
  refine x_iconst dX8_lower_17 ?_
  refine x_icmpne hs dX8_lower_18 rfl (fun hs => ?_) (fun hs => ?_)
  · refine x_iconst dX8_lower_23 ?_
    refine w_istore (lv' := [(5, vi 0), (4, vi y2), (3, vi y1), (0, .ref r0), (1, .ref r1), (2, vi x2)]) dX8_lower_24 (Nat.le_of_ble_eq_true rfl) rfl ?_
    refine w_lv (lv' := [(0, .ref r0), (1, .ref r1), (2, vi x2), (3, vi y1), (4, vi y2), (5, vi 0)]) [3, 4, 5, 2, 1, 0] rfl ?_
    exact q_Pa_lower_l26 hnx r0 h_r0 r1 h_r1 x2 y1 y2 0 s hs
  · refine x_iconst dX8_lower_21 ?_
    cases hs
    exact x_zreturn (Or.inl rfl) dX8_lower_22 rfl rfl (Nat.le_of_ble_eq_true rfl) (Nat.le_of_ble_eq_true rfl) ⟨rfl, rfl⟩

set_option maxRecDepth 100000 in
theorem c_Hx_fullness {C : Cx} {nx : Nat} (hnx : 80 ≤ nx)  (s : Sg) : ∀ o, Hx_fullness  s = some o → mm C M_X11_fullness 3 0 0 nx nx [.ref 0] (hp nx s) (QD nx s o) (XF) := by
  intro o hs
  unfold Hx_fullness at hs
  refine mm_of rfl rfl (Nat.le_of_ble_eq_true rfl) ?_
  show ww C M_X11_fullness 3 0 0 nx (QD nx s o) (XF) nx 0 0 0 [(0, .ref 0)] [] (hp nx s)
  refine w_aload_n 0 dX11_fullness_0 rfl rfl ?_
  refine x_getR 11 0 (b := 1) dX11_fullness_1 (fxX11_10 rfl) rfl rfl (lt_of hnx (Nat.le_of_ble_eq_true rfl)) rfl ?_
  refine x_getI 5 4 dX11_fullness_4 (fxX11_275 rfl) rfl rfl (lt_of hnx (Nat.le_of_ble_eq_true rfl)) ?_
  refine x_istore_n (fun x1_1 => [(1, vi x1_1), (0, .ref 0)]) hs dX11_fullness_7 rfl (Nat.le_of_ble_eq_true rfl) (fun _ => rfl) (fun x1_1 hs => ?_)
  refine w_iload_n 0 dX11_fullness_8 rfl rfl ?_
  refine w_aload_n 1 dX11_fullness_9 rfl rfl ?_
  refine x_getR 11 2 (b := 10) dX11_fullness_10 (fxX11_28 rfl) rfl rfl (lt_of hnx (Nat.le_of_ble_eq_true rfl)) rfl ?_
  refine x_iconst dX11_fullness_13 ?_
  refine x_V_I M_X9_count [vi (-1)] [vi x1_1] hs rfl dX11_fullness_14 (lkX11_151 _ rfl) (lt_of hnx (Nat.le_of_ble_eq_true rfl)) rfl rfl (Nat.le_of_ble_eq_true rfl) (Nat.le_of_ble_eq_true rfl) (Nat.le_of_ble_eq_true rfl) (Nat.le_of_ble_eq_true rfl) (c_Po_count hnx 10 (show 10 ∈ posL by decide) (-1) s) (fun y2 hy2 hs => ?_)
  refine x_isub dX11_fullness_17 ?_
  refine x_istore_n (fun x2_3 => [(2, vi x2_3), (1, vi x1_1), (0, .ref 0)]) hs dX11_fullness_18 rfl (Nat.le_of_ble_eq_true rfl) (fun _ => rfl) (fun x2_3 hs => ?_)
  refine w_iload_n 1 dX11_fullness_19 rfl rfl ?_
  refine x_ifne hs dX11_fullness_20 rfl (fun hs => ?_) (fun hs => ?_)
  · refine w_iload_n 0 dX11_fullness_27 rfl rfl ?_
    refine w_i2d dX11_fullness_28 ?_
    refine w_iload_n 1 dX11_fullness_29 rfl rfl ?_
    refine w_i2d dX11_fullness_30 ?_
    refine grd_e hs (fun hg4 hs => ?_)
    refine w_ddiv dX11_fullness_31 hg4 ?_
    cases hs
    exact w_dreturn rfl dX11_fullness_32 rfl (Nat.le_of_ble_eq_true rfl) (Nat.le_of_ble_eq_true rfl) ⟨rfl, rfl⟩
  · refine w_dconst0 dX11_fullness_23 ?_
    refine w_goto dX11_fullness_24 rfl ?_
    cases hs
    exact w_dreturn rfl dX11_fullness_32 rfl (Nat.le_of_ble_eq_true rfl) (Nat.le_of_ble_eq_true rfl) ⟨rfl, rfl⟩
set_option maxRecDepth 100000 in
theorem q_Hx_writeRow_b15 {C : Cx} {nx : Nat} (hnx : 80 ≤ nx) (hnK : KN ≤ nx)  (s : Sg) {o : (Nat ⊕ Int) × Sg} (hs : Hx_writeRow_b15  s = some o) : ww C M_X11_writeRow 9 1 6 nx (QT nx o) (XT nx o) nx 0 0 15 [] [] (hp nx s) := by
  unfold Hx_writeRow_b15 at hs
  cases hs
  exact thX11_writeRow_15 hnK (Nat.le_of_ble_eq_true rfl) (Nat.le_of_ble_eq_true rfl) ⟨_, rfl, rfl, rfl⟩ (Nat.le_of_ble_eq_true rfl)
set_option maxRecDepth 100000 in
theorem q_Hx_writeRow_b88 {C : Cx} {nx : Nat} (hnx : 80 ≤ nx) (hnK : KN ≤ nx) {Qr : Option Value → Hp → Prop} {Qx : String → Hp → Prop}  (x1 : Int) (x2 : Int) (t1 : Int) (s : Sg) {o : ((Int × Sg) ⊕ (Sg))} (hs : Hx_writeRow_b88 x1 x2 t1 s = some o) (hb : ∀ σ : Int × Sg, o = .inl σ → ww C M_X11_writeRow 9 1 6 nx (Qr) (Qx) nx 0 0 35 [(0, .ref 0), (1, vi x1), (2, vi σ.1)] [] (hp nx σ.2)) (he0 : ∀ ρ : Sg, o = .inr ρ → ww C M_X11_writeRow 9 1 6 nx (Qr) (Qx) nx 0 0 97 [(0, .ref 0)] [] (hp nx ρ)) : ww C M_X11_writeRow 9 1 6 nx (Qr) (Qx) nx 0 0 88 [(0, .ref 0), (1, vi x1), (2, vi x2)] [vi t1, .ref 50] (hp nx s) := by
  unfold Hx_writeRow_b88 at hs
  refine x_V_V M_X1_add [vi t1] [] hs rfl dX11_writeRow_88 (lkX11_121 _ rfl) (lt_of hnx (Nat.le_of_ble_eq_true rfl)) rfl rfl (Nat.le_of_ble_eq_true rfl) (Nat.le_of_ble_eq_true rfl) (Nat.le_of_ble_eq_true rfl) (Nat.le_of_ble_eq_true rfl) (c_By_add hnx 50 (Or.inr rfl) t1 s) (fun s6 hs6 hs => ?_)
  refine x_iinc (lv' := [(2, vi (x2 + 1)), (0, .ref 0), (1, vi x1)]) 2 dX11_writeRow_91 rfl (Nat.le_of_ble_eq_true rfl) rfl ?_
  refine w_goto dX11_writeRow_94 rfl ?_
  refine w_lv (lv' := [(0, .ref 0), (1, vi x1), (2, vi (x2 + 1))]) [1, 2, 0] rfl ?_
  cases hs
  exact hb _ rfl
set_option maxRecDepth 100000 in
theorem q_Hx_writeRow_t35 {C : Cx} {nx : Nat} (hnx : 80 ≤ nx) (hnK : KN ≤ nx) {Qr : Option Value → Hp → Prop} {Qx : String → Hp → Prop}  (x1 : Int) (x2 : Int) (s : Sg) {o : ((Int × Sg) ⊕ (Sg))} (hs : Hx_writeRow_t35 x1 x2 s = some o) (hb : ∀ σ : Int × Sg, o = .inl σ → ww C M_X11_writeRow 9 1 6 nx (Qr) (Qx) nx 0 0 35 [(0, .ref 0), (1, vi x1), (2, vi σ.1)] [] (hp nx σ.2)) (he0 : ∀ ρ : Sg, o = .inr ρ → ww C M_X11_writeRow 9 1 6 nx (Qr) (Qx) nx 0 0 97 [(0, .ref 0)] [] (hp nx ρ)) : ww C M_X11_writeRow 9 1 6 nx (Qr) (Qx) nx 0 0 35 [(0, .ref 0), (1, vi x1), (2, vi x2)] [] (hp nx s) := by
  unfold Hx_writeRow_t35 at hs
  refine w_iload_n 2 dX11_writeRow_35 rfl rfl ?_
  refine w_aload_n 0 dX11_writeRow_36 rfl rfl ?_
  refine x_getR 11 2 (b := 10) dX11_writeRow_37 (fxX11_28 rfl) rfl rfl (lt_of hnx (Nat.le_of_ble_eq_true rfl)) rfl ?_
  refine x_getI 9 2 dX11_writeRow_40 (fxX11_131 rfl) rfl rfl (lt_of hnx (Nat.le_of_ble_eq_true rfl)) ?_
  refine x_icmpge hs dX11_writeRow_43 rfl (fun hs => ?_) (fun hs => ?_)
  · refine w_lv (lv' := [(0, .ref 0)]) [0] rfl ?_
    cases hs
    exact he0 _ rfl
  · refine w_aload_n 0 dX11_writeRow_46 rfl rfl ?_
    refine x_getR 11 2 (b := 10) dX11_writeRow_47 (fxX11_28 rfl) rfl rfl (lt_of hnx (Nat.le_of_ble_eq_true rfl)) rfl ?_
    refine w_aload_n 0 dX11_writeRow_50 rfl rfl ?_
    refine x_getR 11 0 (b := 1) dX11_writeRow_51 (fxX11_10 rfl) rfl rfl (lt_of hnx (Nat.le_of_ble_eq_true rfl)) rfl ?_
    refine w_iload_n 1 dX11_writeRow_54 rfl rfl ?_
    refine w_iload_n 2 dX11_writeRow_55 rfl rfl ?_
    refine x_V_I M_X5_cellAt [vi x1, vi x2] [.ref 10] hs rfl dX11_writeRow_56 (lkX11_334 _ rfl) (lt_of hnx (Nat.le_of_ble_eq_true rfl)) rfl rfl (Nat.le_of_ble_eq_true rfl) (Nat.le_of_ble_eq_true rfl) (Nat.le_of_ble_eq_true rfl) (Nat.le_of_ble_eq_true rfl) (c_Gr_cellAt hnx x1 x2 s) (fun y3 hy3 hs => ?_)
    refine x_V_I M_X9_stone [vi y3] [] hs rfl dX11_writeRow_59 (lkX11_183 _ rfl) (lt_of hnx (Nat.le_of_ble_eq_true rfl)) rfl rfl (Nat.le_of_ble_eq_true rfl) (Nat.le_of_ble_eq_true rfl) (Nat.le_of_ble_eq_true rfl) (Nat.le_of_ble_eq_true rfl) (c_Po_stone hnx 10 (show 10 ∈ posL by decide) y3 s) (fun y4 hy4 hs => ?_)
    refine w_istore_n (lv' := [(3, vi y4), (0, .ref 0), (1, vi x1), (2, vi x2)]) dX11_writeRow_62 rfl (Nat.le_of_ble_eq_true rfl) rfl ?_
    refine w_aload_n 1 dX11_writeRow_63 rfl rfl ?_
    refine x_getR 11 8 (b := 50) dX11_writeRow_64 (fxX11_57 rfl) rfl rfl (lt_of hnx (Nat.le_of_ble_eq_true rfl)) rfl ?_
    refine w_iload_n 0 dX11_writeRow_67 rfl rfl ?_
    refine x_ifne hs dX11_writeRow_68 rfl (fun hs => ?_) (fun hs => ?_)
    · refine w_iload_n 0 dX11_writeRow_76 rfl rfl ?_
      refine x_iconst dX11_writeRow_77 ?_
      refine x_icmpne hs dX11_writeRow_78 rfl (fun hs => ?_) (fun hs => ?_)
      · refine x_bipush dX11_writeRow_86 (by decide) ?_
        refine w_lv (lv' := [(0, .ref 0), (1, vi x1), (2, vi x2)]) [1, 2, 3] rfl ?_
        exact q_Hx_writeRow_b88 hnx hnK x1 x2 46 s hs hb he0
      · refine x_bipush dX11_writeRow_81 (by decide) ?_
        refine w_goto dX11_writeRow_83 rfl ?_
        refine w_lv (lv' := [(0, .ref 0), (1, vi x1), (2, vi x2)]) [1, 2, 3] rfl ?_
        exact q_Hx_writeRow_b88 hnx hnK x1 x2 98 s hs hb he0
    · refine x_bipush dX11_writeRow_71 (by decide) ?_
      refine w_goto dX11_writeRow_73 rfl ?_
      refine w_lv (lv' := [(0, .ref 0), (1, vi x1), (2, vi x2)]) [1, 2, 3] rfl ?_
      exact q_Hx_writeRow_b88 hnx hnK x1 x2 114 s hs hb he0
set_option maxRecDepth 100000 in
theorem q_Hx_writeRow_l35 {C : Cx} {nx : Nat} (hnx : 80 ≤ nx) (hnK : KN ≤ nx) (x1 : Int) (x2 : Int) (s : Sg) {o : (Nat ⊕ Int) × Sg} (hs : Hx_writeRow_l35 x1 x2 s = some o) : ww C M_X11_writeRow 9 1 6 nx (QT nx o) (XT nx o) nx 0 0 35 [(0, .ref 0), (1, vi x1), (2, vi x2)] [] (hp nx s) := by
  unfold Hx_writeRow_l35 at hs
  refine bnd_e hs (fun s_7 hw hs => ?_)
  have hE : ww C M_X11_writeRow 9 1 6 nx (QT nx o) (XT nx o) nx 0 0 97 [(0, .ref 0)] [] (hp nx s_7) := by
    refine w_aload_n 0 dX11_writeRow_97 rfl rfl ?_
    refine x_getR 11 8 (b := 50) dX11_writeRow_98 (fxX11_57 rfl) rfl rfl (lt_of hnx (Nat.le_of_ble_eq_true rfl)) rfl ?_
    refine x_getI 1 1 dX11_writeRow_101 (fxX11_117 rfl) rfl rfl (lt_of hnx (Nat.le_of_ble_eq_true rfl)) ?_
    cases hs
    exact x_ireturn dX11_writeRow_104 rfl rfl (Nat.le_of_ble_eq_true rfl) (Nat.le_of_ble_eq_true rfl) ⟨_, rfl, rfl, rfl⟩
  refine whl_w (P := fun σ => ww C M_X11_writeRow 9 1 6 nx (QT nx o) (XT nx o) nx 0 0 35 [(0, .ref 0), (1, vi x1), (2, vi σ.1)] [] (hp nx σ.2)) (E := fun ρ => ρ = s_7) hw rfl ?_
  intro σ o' hs' hb' he'
  exact q_Hx_writeRow_t35 hnx hnK x1 σ.1 σ.2 hs' hb' (fun ρ e => by cases he' _ e; exact hE)
set_option maxRecDepth 100000 in
theorem c_Hx_writeRow {C : Cx} {nx : Nat} (hnx : 80 ≤ nx) (hnK : KN ≤ nx) (x1 : Int) (s : Sg) : ∀ o, Hx_writeRow x1 s = some o → mm C M_X11_writeRow 9 1 6 nx nx [.ref 0, vi x1] (hp nx s) (QT nx o) (XT nx o) := by
  intro o hs
  unfold Hx_writeRow at hs
  refine mm_of rfl rfl (Nat.le_of_ble_eq_true rfl) ?_
  show ww C M_X11_writeRow 9 1 6 nx (QT nx o) (XT nx o) nx 0 0 0 [(0, .ref 0), (1, vi x1)] [] (hp nx s)
  refine w_iload_n 1 dX11_writeRow_0 rfl rfl ?_
  refine x_iflt hs dX11_writeRow_1 rfl (fun hs => ?_) (fun hs => ?_)
  · refine w_lv (lv' := []) [] rfl ?_
    exact q_Hx_writeRow_b15 hnx hnK  s hs
  · refine w_iload_n 1 dX11_writeRow_4 rfl rfl ?_
    refine w_aload_n 0 dX11_writeRow_5 rfl rfl ?_
    refine x_getR 11 2 (b := 10) dX11_writeRow_6 (fxX11_28 rfl) rfl rfl (lt_of hnx (Nat.le_of_ble_eq_true rfl)) rfl ?_
    refine x_getI 9 2 dX11_writeRow_9 (fxX11_131 rfl) rfl rfl (lt_of hnx (Nat.le_of_ble_eq_true rfl)) ?_
    refine x_icmplt hs dX11_writeRow_12 rfl (fun hs => ?_) (fun hs => ?_)
    · refine w_aload_n 0 dX11_writeRow_26 rfl rfl ?_
      refine x_getR 11 8 (b := 50) dX11_writeRow_27 (fxX11_57 rfl) rfl rfl (lt_of hnx (Nat.le_of_ble_eq_true rfl)) rfl ?_
      refine x_V_V M_X1_clear [] [] hs rfl dX11_writeRow_30 (lkX11_128 _ rfl) (lt_of hnx (Nat.le_of_ble_eq_true rfl)) rfl rfl (Nat.le_of_ble_eq_true rfl) (Nat.le_of_ble_eq_true rfl) (Nat.le_of_ble_eq_true rfl) (Nat.le_of_ble_eq_true rfl) (c_By_clear hnx 50 (Or.inr rfl) s) (fun s2 hs2 hs => ?_)
      refine x_iconst dX11_writeRow_33 ?_
      refine w_istore_n (lv' := [(2, vi 0), (0, .ref 0), (1, vi x1)]) dX11_writeRow_34 rfl (Nat.le_of_ble_eq_true rfl) rfl ?_
      refine w_lv (lv' := [(0, .ref 0), (1, vi x1), (2, vi 0)]) [1, 2, 0] rfl ?_
      exact q_Hx_writeRow_l35 hnx hnK x1 0 s2 hs
    · refine w_lv (lv' := []) [] rfl ?_
      exact q_Hx_writeRow_b15 hnx hnK  s hs
set_option maxRecDepth 100000 in
theorem c_Hx_writeCell {C : Cx} {nx : Nat} (hnx : 80 ≤ nx) (hnK : KN ≤ nx) (x1 : Int) (s : Sg) : ∀ o, Hx_writeCell x1 s = some o → mm C M_X11_writeCell 10 1 6 nx nx [.ref 0, vi x1] (hp nx s) (QT nx o) (XT nx o) := by
  intro o hs
  unfold Hx_writeCell at hs
  refine mm_of rfl rfl (Nat.le_of_ble_eq_true rfl) ?_
  show ww C M_X11_writeCell 10 1 6 nx (QT nx o) (XT nx o) nx 0 0 0 [(0, .ref 0), (1, vi x1)] [] (hp nx s)
  refine w_aload_n 0 dX11_writeCell_0 rfl rfl ?_
  refine w_iload_n 1 dX11_writeCell_1 rfl rfl ?_
  refine x_V_U M_X11_requireCell [vi x1] [] hs rfl dX11_writeCell_2 (lkX11_180 _ rfl) (lt_of hnx (Nat.le_of_ble_eq_true rfl)) rfl rfl (Nat.le_of_ble_eq_true rfl) (Nat.le_of_ble_eq_true rfl) (Nat.le_of_ble_eq_true rfl) (Nat.le_of_ble_eq_true rfl) (c_Hx_requireCell hnx hnK x1 s) rfl (fun y1 s2 hy1 hs => ?_)
  refine w_aload_n 0 dX11_writeCell_5 rfl rfl ?_
  refine x_getR 11 8 (b := 50) dX11_writeCell_6 (fxX11_57 rfl) rfl rfl (lt_of hnx (Nat.le_of_ble_eq_true rfl)) rfl ?_
  refine x_V_V M_X1_clear [] [] hs rfl dX11_writeCell_9 (lkX11_128 _ rfl) (lt_of hnx (Nat.le_of_ble_eq_true rfl)) rfl rfl (Nat.le_of_ble_eq_true rfl) (Nat.le_of_ble_eq_true rfl) (Nat.le_of_ble_eq_true rfl) (Nat.le_of_ble_eq_true rfl) (c_By_clear hnx 50 (Or.inr rfl) s2) (fun s4 hs4 hs => ?_)
  refine w_aload_n 0 dX11_writeCell_12 rfl rfl ?_
  refine x_getR 11 8 (b := 50) dX11_writeCell_13 (fxX11_57 rfl) rfl rfl (lt_of hnx (Nat.le_of_ble_eq_true rfl)) rfl ?_
  refine x_bipush dX11_writeCell_16 (by decide) ?_
  refine w_aload_n 0 dX11_writeCell_18 rfl rfl ?_
  refine x_getR 11 0 (b := 1) dX11_writeCell_19 (fxX11_10 rfl) rfl rfl (lt_of hnx (Nat.le_of_ble_eq_true rfl)) rfl ?_
  refine w_iload_n 1 dX11_writeCell_22 rfl rfl ?_
  refine x_V_I M_X5_column [vi x1] [vi 97, .ref 50] hs rfl dX11_writeCell_23 (lkX11_337 _ rfl) (lt_of hnx (Nat.le_of_ble_eq_true rfl)) rfl rfl (Nat.le_of_ble_eq_true rfl) (Nat.le_of_ble_eq_true rfl) (Nat.le_of_ble_eq_true rfl) (Nat.le_of_ble_eq_true rfl) (c_Gr_column hnx x1 s4) (fun y5 hy5 hs => ?_)
  refine x_iadd dX11_writeCell_26 ?_
  refine x_V_V M_X1_add [vi (97 + y5)] [] hs rfl dX11_writeCell_27 (lkX11_121 _ rfl) (lt_of hnx (Nat.le_of_ble_eq_true rfl)) rfl rfl (Nat.le_of_ble_eq_true rfl) (Nat.le_of_ble_eq_true rfl) (Nat.le_of_ble_eq_true rfl) (Nat.le_of_ble_eq_true rfl) (c_By_add hnx 50 (Or.inr rfl) (97 + y5) s4) (fun s7 hs7 hs => ?_)
  refine w_aload_n 0 dX11_writeCell_30 rfl rfl ?_
  refine x_getR 11 8 (b := 50) dX11_writeCell_31 (fxX11_57 rfl) rfl rfl (lt_of hnx (Nat.le_of_ble_eq_true rfl)) rfl ?_
  refine x_bipush dX11_writeCell_34 (by decide) ?_
  refine w_aload_n 0 dX11_writeCell_36 rfl rfl ?_
  refine x_getR 11 0 (b := 1) dX11_writeCell_37 (fxX11_10 rfl) rfl rfl (lt_of hnx (Nat.le_of_ble_eq_true rfl)) rfl ?_
  refine w_iload_n 1 dX11_writeCell_40 rfl rfl ?_
  refine x_V_I M_X5_row [vi x1] [vi 49, .ref 50] hs rfl dX11_writeCell_41 (lkX11_340 _ rfl) (lt_of hnx (Nat.le_of_ble_eq_true rfl)) rfl rfl (Nat.le_of_ble_eq_true rfl) (Nat.le_of_ble_eq_true rfl) (Nat.le_of_ble_eq_true rfl) (Nat.le_of_ble_eq_true rfl) (c_Gr_row hnx x1 s7) (fun y8 hy8 hs => ?_)
  refine x_iadd dX11_writeCell_44 ?_
  refine x_V_V M_X1_add [vi (49 + y8)] [] hs rfl dX11_writeCell_45 (lkX11_121 _ rfl) (lt_of hnx (Nat.le_of_ble_eq_true rfl)) rfl rfl (Nat.le_of_ble_eq_true rfl) (Nat.le_of_ble_eq_true rfl) (Nat.le_of_ble_eq_true rfl) (Nat.le_of_ble_eq_true rfl) (c_By_add hnx 50 (Or.inr rfl) (49 + y8) s7) (fun s10 hs10 hs => ?_)
  refine w_aload_n 0 dX11_writeCell_48 rfl rfl ?_
  refine x_getR 11 8 (b := 50) dX11_writeCell_49 (fxX11_57 rfl) rfl rfl (lt_of hnx (Nat.le_of_ble_eq_true rfl)) rfl ?_
  refine x_getI 1 1 dX11_writeCell_52 (fxX11_117 rfl) rfl rfl (lt_of hnx (Nat.le_of_ble_eq_true rfl)) ?_
  cases hs
  exact x_ireturn dX11_writeCell_55 rfl rfl (Nat.le_of_ble_eq_true rfl) (Nat.le_of_ble_eq_true rfl) ⟨_, rfl, rfl, rfl⟩
set_option maxRecDepth 100000 in
theorem c_Hx_outputByte {C : Cx} {nx : Nat} (hnx : 80 ≤ nx) (x1 : Int) (s : Sg) : ∀ o, Hx_outputByte x1 s = some o → mm C M_X11_outputByte 1 0 0 nx nx [.ref 0, vi x1] (hp nx s) (QI nx s o) (XF) := by
  intro o hs
  unfold Hx_outputByte at hs
  refine mm_of rfl rfl (Nat.le_of_ble_eq_true rfl) ?_
  show ww C M_X11_outputByte 1 0 0 nx (QI nx s o) (XF) nx 0 0 0 [(0, .ref 0), (1, vi x1)] [] (hp nx s)
  refine w_aload_n 0 dX11_outputByte_0 rfl rfl ?_
  refine x_getR 11 8 (b := 50) dX11_outputByte_1 (fxX11_57 rfl) rfl rfl (lt_of hnx (Nat.le_of_ble_eq_true rfl)) rfl ?_
  refine w_iload_n 1 dX11_outputByte_4 rfl rfl ?_
  refine x_V_I M_X1_get [vi x1] [] hs rfl dX11_outputByte_5 (lkX11_343 _ rfl) (lt_of hnx (Nat.le_of_ble_eq_true rfl)) rfl rfl (Nat.le_of_ble_eq_true rfl) (Nat.le_of_ble_eq_true rfl) (Nat.le_of_ble_eq_true rfl) (Nat.le_of_ble_eq_true rfl) (c_By_get hnx 50 (Or.inr rfl) x1 s) (fun y1 hy1 hs => ?_)
  cases hs
  exact x_ireturn dX11_outputByte_8 rfl rfl (Nat.le_of_ble_eq_true rfl) (Nat.le_of_ble_eq_true rfl) ⟨rfl, rfl⟩
set_option maxRecDepth 100000 in
theorem c_Hi_back {C : Cx} {nx : Nat} (hnx : 80 ≤ nx) (hnK : KN ≤ nx) (r1 : Nat) (h_r1 : isPos r1) (s : Sg) : ∀ o, Hi_back r1 s = some o → mm C M_X6_back 2 0 0 nx nx [.ref 16, .ref r1] (hp nx s) (QI nx o.2 o.1) (XF) := by
  intro o hs
  unfold Hi_back at hs
  refine mm_of rfl rfl (Nat.le_of_ble_eq_true rfl) ?_
  show ww C M_X6_back 2 0 0 nx (QI nx o.2 o.1) (XF) nx 0 0 0 [(0, .ref 16), (1, .ref r1)] [] (hp nx s)
  refine w_aload_n 0 dX6_back_0 rfl rfl ?_
  refine x_getI 6 2 dX6_back_1 (fxX6_18 rfl) rfl rfl (lt_of hnx (Nat.le_of_ble_eq_true rfl)) ?_
  refine x_ifne hs dX6_back_4 rfl (fun hs => ?_) (fun hs => ?_)
  · refine w_aload_n 0 dX6_back_11 rfl rfl ?_
    refine w_aload_n 0 dX6_back_12 rfl rfl ?_
    refine x_getI 6 2 dX6_back_13 (fxX6_18 rfl) rfl rfl (lt_of hnx (Nat.le_of_ble_eq_true rfl)) ?_
    refine x_iconst dX6_back_16 ?_
    refine x_isub dX6_back_17 ?_
    refine x_V_P M_X6_latest [vi ((gi s 16 2) - 1)] [] hs rfl dX6_back_18 (lkX6_25 _ rfl) (lt_of hnx (Nat.le_of_ble_eq_true rfl)) rfl rfl (Nat.le_of_ble_eq_true rfl) (Nat.le_of_ble_eq_true rfl) (Nat.le_of_ble_eq_true rfl) (Nat.le_of_ble_eq_true rfl) (c_Hi_latest hnx ((gi s 16 2) - 1) s) (fun y1 hy1 hs => ?_)
    have h_y1 := p_Hi_latest hy1
    refine w_astore_n (lv' := [(2, .ref y1), (0, .ref 16), (1, .ref r1)]) dX6_back_21 rfl (Nat.le_of_ble_eq_true rfl) rfl ?_
    refine w_aload_n 0 dX6_back_22 rfl rfl ?_
    refine w_ifnonnull dX6_back_23 rfl ?_
    refine w_aload_n 2 dX6_back_28 rfl rfl ?_
    refine w_aload_n 0 dX6_back_29 rfl rfl ?_
    refine x_V_V M_X9_copy [.ref y1] [] hs rfl dX6_back_30 (lkX6_29 _ rfl) (pos_n0 h_r1 hnx) (pos_s0 _ h_r1) rfl (Nat.le_of_ble_eq_true rfl) (Nat.le_of_ble_eq_true rfl) (Nat.le_of_ble_eq_true rfl) (Nat.le_of_ble_eq_true rfl) (c_Po_copy hnx hnK r1 h_r1 y1 h_y1 s) (fun s3 hs3 hs => ?_)
    refine w_aload_n 1 dX6_back_33 rfl rfl ?_
    refine w_dup dX6_back_34 rfl ?_
    refine x_getI 6 2 dX6_back_35 (fxX6_18 rfl) rfl rfl (lt_of hnx (Nat.le_of_ble_eq_true rfl)) ?_
    refine x_iconst dX6_back_38 ?_
    refine x_isub dX6_back_39 ?_
    refine x_putI 6 2 dX6_back_40 (poX6_18 rfl) rfl rfl (lt_of hnx (Nat.le_of_ble_eq_true rfl)) ?_
    refine nam_s hs (fun s4 hs => ?_)
    refine x_iconst dX6_back_43 ?_
    cases hs
    exact x_zreturn (Or.inr rfl) dX6_back_44 rfl rfl (Nat.le_of_ble_eq_true rfl) (Nat.le_of_ble_eq_true rfl) ⟨rfl, rfl⟩
  · refine w_null dX6_back_7 ?_
    refine w_goto dX6_back_8 rfl ?_
    refine w_astore_nN (lv' := [(2, .null), (0, .ref 16), (1, .ref r1)]) dX6_back_21 rfl (Nat.le_of_ble_eq_true rfl) rfl ?_
    refine w_aload_nN 0 dX6_back_22 rfl rfl ?_
    refine w_ifnonnullN dX6_back_23 ?_
    refine x_iconst dX6_back_26 ?_
    cases hs
    exact x_zreturn (Or.inl rfl) dX6_back_27 rfl rfl (Nat.le_of_ble_eq_true rfl) (Nat.le_of_ble_eq_true rfl) ⟨rfl, rfl⟩
set_option maxRecDepth 100000 in
theorem c_Hx_undo {C : Cx} {nx : Nat} (hnx : 80 ≤ nx) (hnK : KN ≤ nx)  (s : Sg) : ∀ o, Hx_undo  s = some o → mm C M_X11_undo 3 0 0 nx nx [.ref 0] (hp nx s) (QI nx o.2 o.1) (XF) := by
  intro o hs
  unfold Hx_undo at hs
  refine mm_of rfl rfl (Nat.le_of_ble_eq_true rfl) ?_
  show ww C M_X11_undo 3 0 0 nx (QI nx o.2 o.1) (XF) nx 0 0 0 [(0, .ref 0)] [] (hp nx s)
  refine w_aload_n 0 dX11_undo_0 rfl rfl ?_
  refine x_getR 11 4 (b := 16) dX11_undo_1 (fxX11_38 rfl) rfl rfl (lt_of hnx (Nat.le_of_ble_eq_true rfl)) rfl ?_
  refine w_aload_n 0 dX11_undo_4 rfl rfl ?_
  refine x_getR 11 2 (b := 10) dX11_undo_5 (fxX11_28 rfl) rfl rfl (lt_of hnx (Nat.le_of_ble_eq_true rfl)) rfl ?_
  refine x_V_B M_X6_back [.ref 10] [] hs rfl dX11_undo_8 (lkX11_346 _ rfl) (lt_of hnx (Nat.le_of_ble_eq_true rfl)) rfl rfl (Nat.le_of_ble_eq_true rfl) (Nat.le_of_ble_eq_true rfl) (Nat.le_of_ble_eq_true rfl) (Nat.le_of_ble_eq_true rfl) (c_Hi_back hnx hnK 10 (show 10 ∈ posL by decide) s) (fun y1 s2 hy1 hs => ?_)
  refine x_ifeq hs dX11_undo_11 rfl (fun hs => ?_) (fun hs => ?_)
  · refine x_iconst dX11_undo_24 ?_
    cases hs
    exact x_ireturn dX11_undo_25 rfl rfl (Nat.le_of_ble_eq_true rfl) (Nat.le_of_ble_eq_true rfl) ⟨rfl, rfl⟩
  · refine w_aload_n 0 dX11_undo_14 rfl rfl ?_
    refine x_getR 11 4 (b := 16) dX11_undo_15 (fxX11_38 rfl) rfl rfl (lt_of hnx (Nat.le_of_ble_eq_true rfl)) rfl ?_
    refine x_getI 6 2 dX11_undo_18 (fxX11_171 rfl) rfl rfl (lt_of hnx (Nat.le_of_ble_eq_true rfl)) ?_
    refine w_goto dX11_undo_21 rfl ?_
    cases hs
    exact x_ireturn dX11_undo_25 rfl rfl (Nat.le_of_ble_eq_true rfl) (Nat.le_of_ble_eq_true rfl) ⟨rfl, rfl⟩
set_option maxRecDepth 100000 in
theorem q_Hx_saveSnapshot_b21 {C : Cx} {nx : Nat} (hnx : 80 ≤ nx) (hnK : KN ≤ nx) (u_0 : Nat) (h_u_0 : isPos u_0) (s : Sg) {o : (Nat ⊕ Int) × Sg} (hs : Hx_saveSnapshot_b21 u_0 s = some o) : ww C M_X11_saveSnapshot 10 1 6 nx (QT nx o) (XT nx o) nx 1 6 21 [(0, .ref 0)] [.ref u_0] (hp nx s) := by
  unfold Hx_saveSnapshot_b21 at hs
  refine w_astore_n (lv' := [(2, .ref u_0), (0, .ref 0)]) dX11_saveSnapshot_21 rfl (Nat.le_of_ble_eq_true rfl) rfl ?_
  refine w_aload_n 0 dX11_saveSnapshot_22 rfl rfl ?_
  refine w_aload_n 1 dX11_saveSnapshot_23 rfl rfl ?_
  refine x_getR 11 2 (b := 10) dX11_saveSnapshot_24 (fxX11_28 rfl) rfl rfl (lt_of hnx (Nat.le_of_ble_eq_true rfl)) rfl ?_
  refine x_V_V M_X9_copy [.ref 10] [] hs rfl dX11_saveSnapshot_27 (lkX11_140 _ rfl) (pos_n0 h_u_0 hnx) (pos_s0 _ h_u_0) rfl (Nat.le_of_ble_eq_true rfl) (Nat.le_of_ble_eq_true rfl) (Nat.le_of_ble_eq_true rfl) (Nat.le_of_ble_eq_true rfl) (c_Po_copy hnx hnK u_0 h_u_0 10 (show 10 ∈ posL by decide) s) (fun s4 hs4 hs => ?_)
  refine w_aload_n 1 dX11_saveSnapshot_30 rfl rfl ?_
  refine x_getR 11 2 (b := 10) dX11_saveSnapshot_31 (fxX11_28 rfl) rfl rfl (lt_of hnx (Nat.le_of_ble_eq_true rfl)) rfl ?_
  refine x_iconst dX11_saveSnapshot_34 ?_
  refine x_V_I M_X9_count [vi (-1)] [] hs rfl dX11_saveSnapshot_35 (lkX11_151 _ rfl) (lt_of hnx (Nat.le_of_ble_eq_true rfl)) rfl rfl (Nat.le_of_ble_eq_true rfl) (Nat.le_of_ble_eq_true rfl) (Nat.le_of_ble_eq_true rfl) (Nat.le_of_ble_eq_true rfl) (c_Po_count hnx 10 (show 10 ∈ posL by decide) (-1) s4) (fun y5 hy5 hs => ?_)
  cases hs
  exact x_ireturn dX11_saveSnapshot_38 rfl rfl (Nat.le_of_ble_eq_true rfl) (Nat.le_of_ble_eq_true rfl) ⟨_, rfl, rfl, rfl⟩
set_option maxRecDepth 100000 in
theorem c_Hx_saveSnapshot {C : Cx} {nx : Nat} (hnx : 80 ≤ nx) (hnK : KN ≤ nx) (x1 : Int) (s : Sg) : ∀ o, Hx_saveSnapshot x1 s = some o → mm C M_X11_saveSnapshot 10 1 6 nx nx [.ref 0, vi x1] (hp nx s) (QT nx o) (XT nx o) := by
  intro o hs
  unfold Hx_saveSnapshot at hs
  refine mm_of rfl rfl (Nat.le_of_ble_eq_true rfl) ?_
  show ww C M_X11_saveSnapshot 10 1 6 nx (QT nx o) (XT nx o) nx 0 0 0 [(0, .ref 0), (1, vi x1)] [] (hp nx s)
  refine w_iload_n 1 dX11_saveSnapshot_0 rfl rfl ?_
  refine x_iconst dX11_saveSnapshot_1 ?_
  refine x_iconst dX11_saveSnapshot_2 ?_
  refine x_S_U M_X11_requireRange [vi x1, vi 0, vi 1] [] hs rfl dX11_saveSnapshot_3 (lkX11_190 _ rfl) (Nat.le_of_ble_eq_true rfl) (Nat.le_of_ble_eq_true rfl) (Nat.le_of_ble_eq_true rfl) (Nat.le_of_ble_eq_true rfl) (c_Hx_requireRange hnx hnK x1 0 1 s) rfl (fun y1 s2 hy1 hs => ?_)
  refine w_iload_n 1 dX11_saveSnapshot_6 rfl rfl ?_
  refine x_ifne hs dX11_saveSnapshot_7 rfl (fun hs => ?_) (fun hs => ?_)
  · refine w_aload_n 0 dX11_saveSnapshot_17 rfl rfl ?_
    refine x_getR 11 6 (b := 45) dX11_saveSnapshot_18 (fxX11_45 rfl) rfl rfl (lt_of hnx (Nat.le_of_ble_eq_true rfl)) rfl ?_
    refine w_lv (lv' := [(0, .ref 0)]) [0] rfl ?_
    exact q_Hx_saveSnapshot_b21 hnx hnK 45 (show 45 ∈ posL by decide) s2 hs
  · refine w_aload_n 0 dX11_saveSnapshot_10 rfl rfl ?_
    refine x_getR 11 5 (b := 42) dX11_saveSnapshot_11 (fxX11_42 rfl) rfl rfl (lt_of hnx (Nat.le_of_ble_eq_true rfl)) rfl ?_
    refine w_goto dX11_saveSnapshot_14 rfl ?_
    refine w_lv (lv' := [(0, .ref 0)]) [0] rfl ?_
    exact q_Hx_saveSnapshot_b21 hnx hnK 42 (show 42 ∈ posL by decide) s2 hs
set_option maxRecDepth 100000 in
theorem c_Po_isBegun {C : Cx} {nx : Nat} (hnx : 80 ≤ nx) (r0 : Nat) (h_r0 : isPos r0) (s : Sg) : ∀ o, Po_isBegun r0 s = some o → mm C M_X9_isBegun 0 0 0 nx nx [.ref r0] (hp nx s) (QI nx s o) (XF) := by
  intro o hs
  unfold Po_isBegun at hs
  refine mm_of rfl rfl (Nat.le_of_ble_eq_true rfl) ?_
  show ww C M_X9_isBegun 0 0 0 nx (QI nx s o) (XF) nx 0 0 0 [(0, .ref r0)] [] (hp nx s)
  refine w_aload_n 0 dX9_isBegun_0 rfl rfl ?_
  refine x_getI 9 2 dX9_isBegun_1 (fxX9_18 rfl) rfl (pos_s0 _ h_r0) (pos_n0 h_r0 hnx) ?_
  refine x_ifeq hs dX9_isBegun_4 rfl (fun hs => ?_) (fun hs => ?_)
  · refine x_iconst dX9_isBegun_11 ?_
    cases hs
    exact x_zreturn (Or.inl rfl) dX9_isBegun_12 rfl rfl (Nat.le_of_ble_eq_true rfl) (Nat.le_of_ble_eq_true rfl) ⟨rfl, rfl⟩
  · refine x_iconst dX9_isBegun_7 ?_
    refine w_goto dX9_isBegun_8 rfl ?_
    cases hs
    exact x_zreturn (Or.inr rfl) dX9_isBegun_12 rfl rfl (Nat.le_of_ble_eq_true rfl) (Nat.le_of_ble_eq_true rfl) ⟨rfl, rfl⟩
set_option maxRecDepth 100000 in
theorem q_Hx_restoreSnapshot_b21 {C : Cx} {nx : Nat} (hnx : 80 ≤ nx) (hnK : KN ≤ nx) (u_0 : Nat) (h_u_0 : isPos u_0) (s : Sg) {o : (Nat ⊕ Int) × Sg} (hs : Hx_restoreSnapshot_b21 u_0 s = some o) : ww C M_X11_restoreSnapshot 10 1 6 nx (QT nx o) (XT nx o) nx 1 6 21 [(0, .ref 0)] [.ref u_0] (hp nx s) := by
  unfold Hx_restoreSnapshot_b21 at hs
  refine w_astore_n (lv' := [(2, .ref u_0), (0, .ref 0)]) dX11_restoreSnapshot_21 rfl (Nat.le_of_ble_eq_true rfl) rfl ?_
  refine w_aload_n 0 dX11_restoreSnapshot_22 rfl rfl ?_
  refine x_V_I M_X9_isBegun [] [] hs rfl dX11_restoreSnapshot_23 (lkX11_350 _ rfl) (pos_n0 h_u_0 hnx) (pos_s0 _ h_u_0) rfl (Nat.le_of_ble_eq_true rfl) (Nat.le_of_ble_eq_true rfl) (Nat.le_of_ble_eq_true rfl) (Nat.le_of_ble_eq_true rfl) (c_Po_isBegun hnx u_0 h_u_0 s) (fun y3 hy3 hs => ?_)
  refine x_ifne hs dX11_restoreSnapshot_26 rfl (fun hs => ?_) (fun hs => ?_)
  · refine w_aload_n 1 dX11_restoreSnapshot_31 rfl rfl ?_
    refine x_getR 11 2 (b := 10) dX11_restoreSnapshot_32 (fxX11_28 rfl) rfl rfl (lt_of hnx (Nat.le_of_ble_eq_true rfl)) rfl ?_
    refine w_aload_n 0 dX11_restoreSnapshot_35 rfl rfl ?_
    refine x_V_V M_X9_copy [.ref u_0] [] hs rfl dX11_restoreSnapshot_36 (lkX11_140 _ rfl) (lt_of hnx (Nat.le_of_ble_eq_true rfl)) rfl rfl (Nat.le_of_ble_eq_true rfl) (Nat.le_of_ble_eq_true rfl) (Nat.le_of_ble_eq_true rfl) (Nat.le_of_ble_eq_true rfl) (c_Po_copy hnx hnK 10 (show 10 ∈ posL by decide) u_0 h_u_0 s) (fun s5 hs5 hs => ?_)
    refine w_aload_n 1 dX11_restoreSnapshot_39 rfl rfl ?_
    refine x_getR 11 0 (b := 1) dX11_restoreSnapshot_40 (fxX11_10 rfl) rfl rfl (lt_of hnx (Nat.le_of_ble_eq_true rfl)) rfl ?_
    refine w_aload_n 1 dX11_restoreSnapshot_43 rfl rfl ?_
    refine x_getR 11 2 (b := 10) dX11_restoreSnapshot_44 (fxX11_28 rfl) rfl rfl (lt_of hnx (Nat.le_of_ble_eq_true rfl)) rfl ?_
    refine x_getI 9 2 dX11_restoreSnapshot_47 (fxX11_131 rfl) rfl rfl (lt_of hnx (Nat.le_of_ble_eq_true rfl)) ?_
    refine x_V_V M_X5_fit [vi (gi s5 10 2)] [] hs rfl dX11_restoreSnapshot_50 (lkX11_109 _ rfl) (lt_of hnx (Nat.le_of_ble_eq_true rfl)) rfl rfl (Nat.le_of_ble_eq_true rfl) (Nat.le_of_ble_eq_true rfl) (Nat.le_of_ble_eq_true rfl) (Nat.le_of_ble_eq_true rfl) (c_Gr_fit hnx (gi s5 10 2) s5) (fun s7 hs7 hs => ?_)
    refine w_aload_n 1 dX11_restoreSnapshot_53 rfl rfl ?_
    refine x_getR 11 4 (b := 16) dX11_restoreSnapshot_54 (fxX11_38 rfl) rfl rfl (lt_of hnx (Nat.le_of_ble_eq_true rfl)) rfl ?_
    refine x_V_V M_X6_clear [] [] hs rfl dX11_restoreSnapshot_57 (lkX11_144 _ rfl) (lt_of hnx (Nat.le_of_ble_eq_true rfl)) rfl rfl (Nat.le_of_ble_eq_true rfl) (Nat.le_of_ble_eq_true rfl) (Nat.le_of_ble_eq_true rfl) (Nat.le_of_ble_eq_true rfl) (c_Hi_clear hnx s7) (fun s9 hs9 hs => ?_)
    refine w_aload_n 1 dX11_restoreSnapshot_60 rfl rfl ?_
    refine x_getR 11 2 (b := 10) dX11_restoreSnapshot_61 (fxX11_28 rfl) rfl rfl (lt_of hnx (Nat.le_of_ble_eq_true rfl)) rfl ?_
    refine x_iconst dX11_restoreSnapshot_64 ?_
    refine x_V_I M_X9_count [vi (-1)] [] hs rfl dX11_restoreSnapshot_65 (lkX11_151 _ rfl) (lt_of hnx (Nat.le_of_ble_eq_true rfl)) rfl rfl (Nat.le_of_ble_eq_true rfl) (Nat.le_of_ble_eq_true rfl) (Nat.le_of_ble_eq_true rfl) (Nat.le_of_ble_eq_true rfl) (c_Po_count hnx 10 (show 10 ∈ posL by decide) (-1) s9) (fun y10 hy10 hs => ?_)
    cases hs
    exact x_ireturn dX11_restoreSnapshot_68 rfl rfl (Nat.le_of_ble_eq_true rfl) (Nat.le_of_ble_eq_true rfl) ⟨_, rfl, rfl, rfl⟩
  · refine x_iconst dX11_restoreSnapshot_29 ?_
    cases hs
    exact x_ireturn dX11_restoreSnapshot_30 rfl rfl (Nat.le_of_ble_eq_true rfl) (Nat.le_of_ble_eq_true rfl) ⟨_, rfl, rfl, rfl⟩
set_option maxRecDepth 100000 in
theorem c_Hx_restoreSnapshot {C : Cx} {nx : Nat} (hnx : 80 ≤ nx) (hnK : KN ≤ nx) (x1 : Int) (s : Sg) : ∀ o, Hx_restoreSnapshot x1 s = some o → mm C M_X11_restoreSnapshot 10 1 6 nx nx [.ref 0, vi x1] (hp nx s) (QT nx o) (XT nx o) := by
  intro o hs
  unfold Hx_restoreSnapshot at hs
  refine mm_of rfl rfl (Nat.le_of_ble_eq_true rfl) ?_
  show ww C M_X11_restoreSnapshot 10 1 6 nx (QT nx o) (XT nx o) nx 0 0 0 [(0, .ref 0), (1, vi x1)] [] (hp nx s)
  refine w_iload_n 1 dX11_restoreSnapshot_0 rfl rfl ?_
  refine x_iconst dX11_restoreSnapshot_1 ?_
  refine x_iconst dX11_restoreSnapshot_2 ?_
  refine x_S_U M_X11_requireRange [vi x1, vi 0, vi 1] [] hs rfl dX11_restoreSnapshot_3 (lkX11_190 _ rfl) (Nat.le_of_ble_eq_true rfl) (Nat.le_of_ble_eq_true rfl) (Nat.le_of_ble_eq_true rfl) (Nat.le_of_ble_eq_true rfl) (c_Hx_requireRange hnx hnK x1 0 1 s) rfl (fun y1 s2 hy1 hs => ?_)
  refine w_iload_n 1 dX11_restoreSnapshot_6 rfl rfl ?_
  refine x_ifne hs dX11_restoreSnapshot_7 rfl (fun hs => ?_) (fun hs => ?_)
  · refine w_aload_n 0 dX11_restoreSnapshot_17 rfl rfl ?_
    refine x_getR 11 6 (b := 45) dX11_restoreSnapshot_18 (fxX11_45 rfl) rfl rfl (lt_of hnx (Nat.le_of_ble_eq_true rfl)) rfl ?_
    refine w_lv (lv' := [(0, .ref 0)]) [0] rfl ?_
    exact q_Hx_restoreSnapshot_b21 hnx hnK 45 (show 45 ∈ posL by decide) s2 hs
  · refine w_aload_n 0 dX11_restoreSnapshot_10 rfl rfl ?_
    refine x_getR 11 5 (b := 42) dX11_restoreSnapshot_11 (fxX11_42 rfl) rfl rfl (lt_of hnx (Nat.le_of_ble_eq_true rfl)) rfl ?_
    refine w_goto dX11_restoreSnapshot_14 rfl ?_
    refine w_lv (lv' := [(0, .ref 0)]) [0] rfl ?_
    exact q_Hx_restoreSnapshot_b21 hnx hnK 42 (show 42 ∈ posL by decide) s2 hs
set_option maxRecDepth 100000 in
theorem q_Mo_begins_t2 {C : Cx} {nx : Nat} (hnx : 100 ≤ nx) {Qr : Option Value → Hp → Prop} {Qx : String → Hp → Prop}  (x1 : Int) (x2 : Int) (s : Sg) {o : ((Int × Sg) ⊕ (Sg))} (hs : Mo_begins_t2 x1 x2 s = some o) (hb : ∀ σ : Int × Sg, o = .inl σ → ww C M_X12_begins 0 0 0 nx (Qr) (Qx) nx 0 0 2 [(0, .ref 80), (1, vi x1), (2, vi σ.1)] [] (hp nx σ.2)) (he0 : ∀ ρ : Sg, o = .inr ρ → ww C M_X12_begins 0 0 0 nx (Qr) (Qx) nx 0 0 22 [(0, .ref 80), (1, vi x1)] [] (hp nx ρ)) : ww C M_X12_begins 0 0 0 nx (Qr) (Qx) nx 0 0 2 [(0, .ref 80), (1, vi x1), (2, vi x2)] [] (hp nx s) := by
  unfold Mo_begins_t2 at hs
  refine w_iload_n 2 dX12_begins_2 rfl rfl ?_
  refine x_sipush dX12_begins_3 (by decide) ?_
  refine x_icmpge hs dX12_begins_6 rfl (fun hs => ?_) (fun hs => ?_)
  · refine w_lv (lv' := [(0, .ref 80), (1, vi x1)]) [0, 1] rfl ?_
    cases hs
    exact he0 _ rfl
  · refine w_aload_n 0 dX12_begins_9 rfl rfl ?_
    refine x_getR 12 1 (b := 81) dX12_begins_10 (fxX12_9 rfl) rfl rfl (lt_of hnx (Nat.le_of_ble_eq_true rfl)) rfl ?_
    refine w_iload_n 2 dX12_begins_13 rfl rfl ?_
    refine x_iconst dX12_begins_14 ?_
    refine grd_e hs (fun hg1 hs => ?_)
    refine x_iast hg1 (Nat.le_of_ble_eq_true rfl) dX12_begins_15 rfl (lt_of hnx (Nat.le_of_ble_eq_true rfl)) ?_
    refine nam_s hs (fun s2 hs => ?_)
    refine x_iinc (lv' := [(2, vi (x2 + 1)), (0, .ref 80), (1, vi x1)]) 2 dX12_begins_16 rfl (Nat.le_of_ble_eq_true rfl) rfl ?_
    refine w_goto dX12_begins_19 rfl ?_
    refine w_lv (lv' := [(0, .ref 80), (1, vi x1), (2, vi (x2 + 1))]) [1, 2, 0] rfl ?_
    cases hs
    exact hb _ rfl
set_option maxRecDepth 100000 in
theorem q_Mo_begins_l2 {C : Cx} {nx : Nat} (hnx : 100 ≤ nx) (x1 : Int) (x2 : Int) (s : Sg) {o : Sg} (hs : Mo_begins_l2 x1 x2 s = some o) : ww C M_X12_begins 0 0 0 nx (QV nx o) (XF) nx 0 0 2 [(0, .ref 80), (1, vi x1), (2, vi x2)] [] (hp nx s) := by
  unfold Mo_begins_l2 at hs
  refine bnd_e hs (fun s_3 hw hs => ?_)
  have hE : ww C M_X12_begins 0 0 0 nx (QV nx o) (XF) nx 0 0 22 [(0, .ref 80), (1, vi x1)] [] (hp nx s_3) := by
    refine w_aload_n 0 dX12_begins_22 rfl rfl ?_
    refine x_getR 12 1 (b := 81) dX12_begins_23 (fxX12_9 rfl) rfl rfl (lt_of hnx (Nat.le_of_ble_eq_true rfl)) rfl ?_
    refine x_iconst dX12_begins_26 ?_
    refine w_iload_n 1 dX12_begins_27 rfl rfl ?_
    refine grd_e hs (fun hg4 hs => ?_)
    refine x_iast ⟨by decide, by decide⟩ (Nat.le_of_ble_eq_true rfl) dX12_begins_28 rfl (lt_of hnx (Nat.le_of_ble_eq_true rfl)) ?_
    refine nam_s hs (fun s5 hs => ?_)
    refine w_aload_n 0 dX12_begins_29 rfl rfl ?_
    refine x_getR 12 1 (b := 81) dX12_begins_30 (fxX12_9 rfl) rfl rfl (lt_of hnx (Nat.le_of_ble_eq_true rfl)) rfl ?_
    refine x_iconst dX12_begins_33 ?_
    refine x_iconst dX12_begins_34 ?_
    refine grd_e hs (fun hg6 hs => ?_)
    refine x_iast ⟨by decide, by decide⟩ (Nat.le_of_ble_eq_true rfl) dX12_begins_35 rfl (lt_of hnx (Nat.le_of_ble_eq_true rfl)) ?_
    refine nam_s hs (fun s7 hs => ?_)
    refine w_aload_n 0 dX12_begins_36 rfl rfl ?_
    refine x_getR 12 1 (b := 81) dX12_begins_37 (fxX12_9 rfl) rfl rfl (lt_of hnx (Nat.le_of_ble_eq_true rfl)) rfl ?_
    refine x_iconst dX12_begins_40 ?_
    refine x_iconst dX12_begins_41 ?_
    refine grd_e hs (fun hg8 hs => ?_)
    refine x_iast ⟨by decide, by decide⟩ (Nat.le_of_ble_eq_true rfl) dX12_begins_42 rfl (lt_of hnx (Nat.le_of_ble_eq_true rfl)) ?_
    refine nam_s hs (fun s9 hs => ?_)
    refine w_aload_n 0 dX12_begins_43 rfl rfl ?_
    refine x_getR 12 1 (b := 81) dX12_begins_44 (fxX12_9 rfl) rfl rfl (lt_of hnx (Nat.le_of_ble_eq_true rfl)) rfl ?_
    refine x_iconst dX12_begins_47 ?_
    refine x_iconst dX12_begins_48 ?_
    refine grd_e hs (fun hg10 hs => ?_)
    refine x_iast ⟨by decide, by decide⟩ (Nat.le_of_ble_eq_true rfl) dX12_begins_49 rfl (lt_of hnx (Nat.le_of_ble_eq_true rfl)) ?_
    refine nam_s hs (fun s11 hs => ?_)
    cases hs
    exact w_return rfl dX12_begins_50 rfl (Nat.le_of_ble_eq_true rfl) (Nat.le_of_ble_eq_true rfl) ⟨rfl, rfl⟩
  refine whl_w (P := fun σ => ww C M_X12_begins 0 0 0 nx (QV nx o) (XF) nx 0 0 2 [(0, .ref 80), (1, vi x1), (2, vi σ.1)] [] (hp nx σ.2)) (E := fun ρ => ρ = s_3) hw rfl ?_
  intro σ o' hs' hb' he'
  exact q_Mo_begins_t2 hnx x1 σ.1 σ.2 hs' hb' (fun ρ e => by cases he' _ e; exact hE)
set_option maxRecDepth 100000 in
theorem c_Mo_begins {C : Cx} {nx : Nat} (hnx : 100 ≤ nx) (x1 : Int) (s : Sg) : ∀ o, Mo_begins x1 s = some o → mm C M_X12_begins 0 0 0 nx nx [.ref 80, vi x1] (hp nx s) (QV nx o) (XF) := by
  intro o hs
  unfold Mo_begins at hs
  refine mm_of rfl rfl (Nat.le_of_ble_eq_true rfl) ?_
  show ww C M_X12_begins 0 0 0 nx (QV nx o) (XF) nx 0 0 0 [(0, .ref 80), (1, vi x1)] [] (hp nx s)
  refine x_iconst dX12_begins_0 ?_
  refine w_istore_n (lv' := [(2, vi 0), (0, .ref 80), (1, vi x1)]) dX12_begins_1 rfl (Nat.le_of_ble_eq_true rfl) rfl ?_
  refine w_lv (lv' := [(0, .ref 80), (1, vi x1), (2, vi 0)]) [1, 2, 0] rfl ?_
  exact q_Mo_begins_l2 hnx x1 0 s hs
set_option maxRecDepth 100000 in
theorem c_Mo_thrown {C : Cx} {nx : Nat} (hnx : 100 ≤ nx)  (s : Sg) : ∀ o, Mo_thrown  s = some o → mm C M_X12_thrown 0 0 0 nx nx [.ref 80] (hp nx s) (QI nx s o) (XF) := by
  intro o hs
  unfold Mo_thrown at hs
  refine mm_of rfl rfl (Nat.le_of_ble_eq_true rfl) ?_
  show ww C M_X12_thrown 0 0 0 nx (QI nx s o) (XF) nx 0 0 0 [(0, .ref 80)] [] (hp nx s)
  refine w_aload_n 0 dX12_thrown_0 rfl rfl ?_
  refine x_getI 12 0 dX12_thrown_1 (fxX12_77 rfl) rfl rfl (lt_of hnx (Nat.le_of_ble_eq_true rfl)) ?_
  cases hs
  exact x_ireturn dX12_thrown_4 rfl rfl (Nat.le_of_ble_eq_true rfl) (Nat.le_of_ble_eq_true rfl) ⟨rfl, rfl⟩
set_option maxRecDepth 100000 in
theorem c_Mo_in {C : Cx} {nx : Nat} (hnx : 100 ≤ nx) (x0 : Int) (x2 : Int) (x4 : Int) (s : Sg) : ∀ o, Mo_in x0 x2 x4 s = some o → mm C M_X12_in 0 0 0 nx nx [vl x0, vl x2, vl x4] (hp nx s) (QI nx s o) (XF) := by
  intro o hs
  unfold Mo_in at hs
  refine mm_of rfl rfl (Nat.le_of_ble_eq_true rfl) ?_
  show ww C M_X12_in 0 0 0 nx (QI nx s o) (XF) nx 0 0 0 [(0, vl x0), (2, vl x2), (4, vl x4)] [] (hp nx s)
  refine w_lload_n 1 dX12_in_0 rfl rfl ?_
  refine w_lload_n 0 dX12_in_1 rfl rfl ?_
  refine grd_e hs (fun hg1 hs => ?_)
  refine x_lcmp dX12_in_2 hg1.1 hg1.2 ?_
  refine x_ifgt hs dX12_in_3 rfl (fun hs => ?_) (fun hs => ?_)
  · refine x_iconst dX12_in_17 ?_
    cases hs
    exact x_zreturn (Or.inl rfl) dX12_in_18 rfl rfl (Nat.le_of_ble_eq_true rfl) (Nat.le_of_ble_eq_true rfl) ⟨rfl, rfl⟩
  · refine w_lload_n 0 dX12_in_6 rfl rfl ?_
    refine w_lload 2 dX12_in_7 rfl ?_
    refine grd_e hs (fun hg2 hs => ?_)
    refine x_lcmp dX12_in_9 hg2.1 hg2.2 ?_
    refine x_ifgt hs dX12_in_10 rfl (fun hs => ?_) (fun hs => ?_)
    · refine x_iconst dX12_in_17 ?_
      cases hs
      exact x_zreturn (Or.inl rfl) dX12_in_18 rfl rfl (Nat.le_of_ble_eq_true rfl) (Nat.le_of_ble_eq_true rfl) ⟨rfl, rfl⟩
    · refine x_iconst dX12_in_13 ?_
      refine w_goto dX12_in_14 rfl ?_
      cases hs
      exact x_zreturn (Or.inr rfl) dX12_in_18 rfl rfl (Nat.le_of_ble_eq_true rfl) (Nat.le_of_ble_eq_true rfl) ⟨rfl, rfl⟩
set_option maxRecDepth 100000 in
theorem q_Mo_wrong_b10 {C : Cx} {nx : Nat} (hnx : 100 ≤ nx) (x1 : Int) (t1 : Int) (s : Sg) {o : Int × Sg} (hs : Mo_wrong_b10 x1 t1 s = some o) : ww C M_X12_wrong 0 0 0 nx (QI nx o.2 o.1) (XF) nx 0 0 10 [(1, vi x1)] [vi t1, .ref 80] (hp nx s) := by
  unfold Mo_wrong_b10 at hs
  refine x_putI 12 0 dX12_wrong_10 (poX12_77 rfl) rfl rfl (lt_of hnx (Nat.le_of_ble_eq_true rfl)) ?_
  refine nam_s hs (fun s1 hs => ?_)
  refine w_iload_n 0 dX12_wrong_13 rfl rfl ?_
  refine grd_e hs (fun hg2 hs => ?_)
  cases hs
  exact x_zreturn hg2 dX12_wrong_14 rfl rfl (Nat.le_of_ble_eq_true rfl) (Nat.le_of_ble_eq_true rfl) ⟨rfl, rfl⟩
set_option maxRecDepth 100000 in
theorem c_Mo_wrong {C : Cx} {nx : Nat} (hnx : 100 ≤ nx) (x1 : Int) (s : Sg) : ∀ o, Mo_wrong x1 s = some o → mm C M_X12_wrong 0 0 0 nx nx [.ref 80, vi x1] (hp nx s) (QI nx o.2 o.1) (XF) := by
  intro o hs
  unfold Mo_wrong at hs
  refine mm_of rfl rfl (Nat.le_of_ble_eq_true rfl) ?_
  show ww C M_X12_wrong 0 0 0 nx (QI nx o.2 o.1) (XF) nx 0 0 0 [(0, .ref 80), (1, vi x1)] [] (hp nx s)
  refine w_aload_n 0 dX12_wrong_0 rfl rfl ?_
  refine w_iload_n 1 dX12_wrong_1 rfl rfl ?_
  refine x_ifeq hs dX12_wrong_2 rfl (fun hs => ?_) (fun hs => ?_)
  · refine x_iconst dX12_wrong_9 ?_
    refine w_lv (lv' := [(1, vi x1)]) [1] rfl ?_
    exact q_Mo_wrong_b10 hnx x1 0 s hs
  · refine x_iconst dX12_wrong_5 ?_
    refine w_goto dX12_wrong_6 rfl ?_
    refine w_lv (lv' := [(1, vi x1)]) [1] rfl ?_
    exact q_Mo_wrong_b10 hnx x1 1 s hs
set_option maxRecDepth 100000 in
theorem c_Mo_throwsIf {C : Cx} {nx : Nat} (hnx : 100 ≤ nx) (x1 : Int) (x2 : Int) (s : Sg) : ∀ o, Mo_throwsIf x1 x2 s = some o → mm C M_X12_throwsIf 0 0 0 nx nx [.ref 80, vi x1, vi x2] (hp nx s) (QI nx o.2 o.1) (XF) := by
  intro o hs
  unfold Mo_throwsIf at hs
  refine mm_of rfl rfl (Nat.le_of_ble_eq_true rfl) ?_
  show ww C M_X12_throwsIf 0 0 0 nx (QI nx o.2 o.1) (XF) nx 0 0 0 [(0, .ref 80), (1, vi x1), (2, vi x2)] [] (hp nx s)
  refine w_iload_n 1 dX12_throwsIf_0 rfl rfl ?_
  refine x_ifeq hs dX12_throwsIf_1 rfl (fun hs => ?_) (fun hs => ?_)
  · refine w_iload_n 1 dX12_throwsIf_9 rfl rfl ?_
    refine grd_e hs (fun hg1 hs => ?_)
    cases hs
    exact x_zreturn hg1 dX12_throwsIf_10 rfl rfl (Nat.le_of_ble_eq_true rfl) (Nat.le_of_ble_eq_true rfl) ⟨rfl, rfl⟩
  · refine w_aload_n 0 dX12_throwsIf_4 rfl rfl ?_
    refine w_iload_n 2 dX12_throwsIf_5 rfl rfl ?_
    refine x_putI 12 0 dX12_throwsIf_6 (poX12_77 rfl) rfl rfl (lt_of hnx (Nat.le_of_ble_eq_true rfl)) ?_
    refine nam_s hs (fun s2 hs => ?_)
    refine w_iload_n 1 dX12_throwsIf_9 rfl rfl ?_
    refine grd_e hs (fun hg3 hs => ?_)
    cases hs
    exact x_zreturn hg3 dX12_throwsIf_10 rfl rfl (Nat.le_of_ble_eq_true rfl) (Nat.le_of_ble_eq_true rfl) ⟨rfl, rfl⟩
set_option maxRecDepth 100000 in
theorem q_Mo_goesAside_t2 {C : Cx} {nx : Nat} (hnx : 100 ≤ nx) {Qr : Option Value → Hp → Prop} {Qx : String → Hp → Prop}  (x1 : Int) (s : Sg) {o : ((Int × Sg) ⊕ (Sg))} (hs : Mo_goesAside_t2 x1 s = some o) (hb : ∀ σ : Int × Sg, o = .inl σ → ww C M_X12_goesAside 0 0 0 nx (Qr) (Qx) nx 0 0 2 [(0, .ref 80), (1, vi σ.1)] [] (hp nx σ.2)) (he0 : ∀ ρ : Sg, o = .inr ρ → ww C M_X12_goesAside 0 0 0 nx (Qr) (Qx) nx 0 0 27 [] [] (hp nx ρ)) : ww C M_X12_goesAside 0 0 0 nx (Qr) (Qx) nx 0 0 2 [(0, .ref 80), (1, vi x1)] [] (hp nx s) := by
  unfold Mo_goesAside_t2 at hs
  refine w_iload_n 1 dX12_goesAside_2 rfl rfl ?_
  refine x_sipush dX12_goesAside_3 (by decide) ?_
  refine x_icmpge hs dX12_goesAside_6 rfl (fun hs => ?_) (fun hs => ?_)
  · refine w_lv (lv' := []) [] rfl ?_
    cases hs
    exact he0 _ rfl
  · refine w_aload_n 0 dX12_goesAside_9 rfl rfl ?_
    refine x_getR 12 2 (b := 82) dX12_goesAside_10 (fxX12_13 rfl) rfl rfl (lt_of hnx (Nat.le_of_ble_eq_true rfl)) rfl ?_
    refine w_iload_n 1 dX12_goesAside_13 rfl rfl ?_
    refine w_aload_n 0 dX12_goesAside_14 rfl rfl ?_
    refine x_getR 12 1 (b := 81) dX12_goesAside_15 (fxX12_9 rfl) rfl rfl (lt_of hnx (Nat.le_of_ble_eq_true rfl)) rfl ?_
    refine w_iload_n 1 dX12_goesAside_18 rfl rfl ?_
    refine grd_e hs (fun hg1 hs => ?_)
    refine x_iald hg1 (Nat.le_of_ble_eq_true rfl) dX12_goesAside_19 (Or.inl ⟨rfl, (lt_of hnx (Nat.le_of_ble_eq_true rfl))⟩) ?_
    refine grd_e hs (fun hg2 hs => ?_)
    refine x_iast hg2 (Nat.le_of_ble_eq_true rfl) dX12_goesAside_20 rfl (lt_of hnx (Nat.le_of_ble_eq_true rfl)) ?_
    refine nam_s hs (fun s3 hs => ?_)
    refine x_iinc (lv' := [(1, vi (x1 + 1)), (0, .ref 80)]) 1 dX12_goesAside_21 rfl (Nat.le_of_ble_eq_true rfl) rfl ?_
    refine w_goto dX12_goesAside_24 rfl ?_
    refine w_lv (lv' := [(0, .ref 80), (1, vi (x1 + 1))]) [1, 0] rfl ?_
    cases hs
    exact hb _ rfl
set_option maxRecDepth 100000 in
theorem q_Mo_goesAside_l2 {C : Cx} {nx : Nat} (hnx : 100 ≤ nx) (x1 : Int) (s : Sg) {o : Sg} (hs : Mo_goesAside_l2 x1 s = some o) : ww C M_X12_goesAside 0 0 0 nx (QV nx o) (XF) nx 0 0 2 [(0, .ref 80), (1, vi x1)] [] (hp nx s) := by
  unfold Mo_goesAside_l2 at hs
  refine bnd_e hs (fun s_4 hw hs => ?_)
  have hE : ww C M_X12_goesAside 0 0 0 nx (QV nx o) (XF) nx 0 0 27 [] [] (hp nx s_4) := by
    cases hs
    exact w_return rfl dX12_goesAside_27 rfl (Nat.le_of_ble_eq_true rfl) (Nat.le_of_ble_eq_true rfl) ⟨rfl, rfl⟩
  refine whl_w (P := fun σ => ww C M_X12_goesAside 0 0 0 nx (QV nx o) (XF) nx 0 0 2 [(0, .ref 80), (1, vi σ.1)] [] (hp nx σ.2)) (E := fun ρ => ρ = s_4) hw rfl ?_
  intro σ o' hs' hb' he'
  exact q_Mo_goesAside_t2 hnx σ.1 σ.2 hs' hb' (fun ρ e => by cases he' _ e; exact hE)
set_option maxRecDepth 100000 in
theorem c_Mo_goesAside {C : Cx} {nx : Nat} (hnx : 100 ≤ nx)  (s : Sg) : ∀ o, Mo_goesAside  s = some o → mm C M_X12_goesAside 0 0 0 nx nx [.ref 80] (hp nx s) (QV nx o) (XF) := by
  intro o hs
  unfold Mo_goesAside at hs
  refine mm_of rfl rfl (Nat.le_of_ble_eq_true rfl) ?_
  show ww C M_X12_goesAside 0 0 0 nx (QV nx o) (XF) nx 0 0 0 [(0, .ref 80)] [] (hp nx s)
  refine x_iconst dX12_goesAside_0 ?_
  refine w_istore_n (lv' := [(1, vi 0), (0, .ref 80)]) dX12_goesAside_1 rfl (Nat.le_of_ble_eq_true rfl) rfl ?_
  refine w_lv (lv' := [(0, .ref 80), (1, vi 0)]) [1, 0] rfl ?_
  exact q_Mo_goesAside_l2 hnx 0 s hs
set_option maxRecDepth 100000 in
theorem q_Mo_comesBack_t2 {C : Cx} {nx : Nat} (hnx : 100 ≤ nx) {Qr : Option Value → Hp → Prop} {Qx : String → Hp → Prop}  (x1 : Int) (x2 : Int) (s : Sg) {o : ((Int × Sg) ⊕ (Sg))} (hs : Mo_comesBack_t2 x1 x2 s = some o) (hb : ∀ σ : Int × Sg, o = .inl σ → ww C M_X12_comesBack 0 0 0 nx (Qr) (Qx) nx 0 0 2 [(0, .ref 80), (1, vi x1), (2, vi σ.1)] [] (hp nx σ.2)) (he0 : ∀ ρ : Sg, o = .inr ρ → ww C M_X12_comesBack 0 0 0 nx (Qr) (Qx) nx 0 0 27 [(1, vi x1)] [] (hp nx ρ)) : ww C M_X12_comesBack 0 0 0 nx (Qr) (Qx) nx 0 0 2 [(0, .ref 80), (1, vi x1), (2, vi x2)] [] (hp nx s) := by
  unfold Mo_comesBack_t2 at hs
  refine w_iload_n 2 dX12_comesBack_2 rfl rfl ?_
  refine x_sipush dX12_comesBack_3 (by decide) ?_
  refine x_icmpge hs dX12_comesBack_6 rfl (fun hs => ?_) (fun hs => ?_)
  · refine w_lv (lv' := [(1, vi x1)]) [1] rfl ?_
    cases hs
    exact he0 _ rfl
  · refine w_aload_n 0 dX12_comesBack_9 rfl rfl ?_
    refine x_getR 12 1 (b := 81) dX12_comesBack_10 (fxX12_9 rfl) rfl rfl (lt_of hnx (Nat.le_of_ble_eq_true rfl)) rfl ?_
    refine w_iload_n 2 dX12_comesBack_13 rfl rfl ?_
    refine w_aload_n 0 dX12_comesBack_14 rfl rfl ?_
    refine x_getR 12 2 (b := 82) dX12_comesBack_15 (fxX12_13 rfl) rfl rfl (lt_of hnx (Nat.le_of_ble_eq_true rfl)) rfl ?_
    refine w_iload_n 2 dX12_comesBack_18 rfl rfl ?_
    refine grd_e hs (fun hg1 hs => ?_)
    refine x_iald hg1 (Nat.le_of_ble_eq_true rfl) dX12_comesBack_19 (Or.inl ⟨rfl, (lt_of hnx (Nat.le_of_ble_eq_true rfl))⟩) ?_
    refine grd_e hs (fun hg2 hs => ?_)
    refine x_iast hg2 (Nat.le_of_ble_eq_true rfl) dX12_comesBack_20 rfl (lt_of hnx (Nat.le_of_ble_eq_true rfl)) ?_
    refine nam_s hs (fun s3 hs => ?_)
    refine x_iinc (lv' := [(2, vi (x2 + 1)), (0, .ref 80), (1, vi x1)]) 2 dX12_comesBack_21 rfl (Nat.le_of_ble_eq_true rfl) rfl ?_
    refine w_goto dX12_comesBack_24 rfl ?_
    refine w_lv (lv' := [(0, .ref 80), (1, vi x1), (2, vi (x2 + 1))]) [1, 2, 0] rfl ?_
    cases hs
    exact hb _ rfl
set_option maxRecDepth 100000 in
theorem q_Mo_comesBack_l2 {C : Cx} {nx : Nat} (hnx : 100 ≤ nx) (x1 : Int) (x2 : Int) (s : Sg) {o : Int × Sg} (hs : Mo_comesBack_l2 x1 x2 s = some o) : ww C M_X12_comesBack 0 0 0 nx (QI nx o.2 o.1) (XF) nx 0 0 2 [(0, .ref 80), (1, vi x1), (2, vi x2)] [] (hp nx s) := by
  unfold Mo_comesBack_l2 at hs
  refine bnd_e hs (fun s_4 hw hs => ?_)
  have hE : ww C M_X12_comesBack 0 0 0 nx (QI nx o.2 o.1) (XF) nx 0 0 27 [(1, vi x1)] [] (hp nx s_4) := by
    refine w_iload_n 0 dX12_comesBack_27 rfl rfl ?_
    cases hs
    exact x_ireturn dX12_comesBack_28 rfl rfl (Nat.le_of_ble_eq_true rfl) (Nat.le_of_ble_eq_true rfl) ⟨rfl, rfl⟩
  refine whl_w (P := fun σ => ww C M_X12_comesBack 0 0 0 nx (QI nx o.2 o.1) (XF) nx 0 0 2 [(0, .ref 80), (1, vi x1), (2, vi σ.1)] [] (hp nx σ.2)) (E := fun ρ => ρ = s_4) hw rfl ?_
  intro σ o' hs' hb' he'
  exact q_Mo_comesBack_t2 hnx x1 σ.1 σ.2 hs' hb' (fun ρ e => by cases he' _ e; exact hE)
set_option maxRecDepth 100000 in
theorem c_Mo_comesBack {C : Cx} {nx : Nat} (hnx : 100 ≤ nx) (x1 : Int) (s : Sg) : ∀ o, Mo_comesBack x1 s = some o → mm C M_X12_comesBack 0 0 0 nx nx [.ref 80, vi x1] (hp nx s) (QI nx o.2 o.1) (XF) := by
  intro o hs
  unfold Mo_comesBack at hs
  refine mm_of rfl rfl (Nat.le_of_ble_eq_true rfl) ?_
  show ww C M_X12_comesBack 0 0 0 nx (QI nx o.2 o.1) (XF) nx 0 0 0 [(0, .ref 80), (1, vi x1)] [] (hp nx s)
  refine x_iconst dX12_comesBack_0 ?_
  refine w_istore_n (lv' := [(2, vi 0), (0, .ref 80), (1, vi x1)]) dX12_comesBack_1 rfl (Nat.le_of_ble_eq_true rfl) rfl ?_
  refine w_lv (lv' := [(0, .ref 80), (1, vi x1), (2, vi 0)]) [1, 2, 0] rfl ?_
  exact q_Mo_comesBack_l2 hnx x1 0 s hs
set_option maxRecDepth 100000 in
theorem q_Mo_keeps_t57 {C : Cx} {nx : Nat} (hnx : 100 ≤ nx) {Qr : Option Value → Hp → Prop} {Qx : String → Hp → Prop}  (x1 : Int) (s : Sg) {o : ((Int × Sg) ⊕ (Sg))} (hs : Mo_keeps_t57 x1 s = some o) (hb : ∀ σ : Int × Sg, o = .inl σ → ww C M_X12_keeps 0 0 0 nx (Qr) (Qx) nx 0 0 57 [(0, .ref 80), (1, vi σ.1)] [] (hp nx σ.2)) (he0 : ∀ ρ : Sg, o = .inr ρ → ww C M_X12_keeps 0 0 0 nx (Qr) (Qx) nx 0 0 91 [(0, .ref 80)] [] (hp nx ρ)) : ww C M_X12_keeps 0 0 0 nx (Qr) (Qx) nx 0 0 57 [(0, .ref 80), (1, vi x1)] [] (hp nx s) := by
  unfold Mo_keeps_t57 at hs
  refine w_iload_n 1 dX12_keeps_57 rfl rfl ?_
  refine x_sipush dX12_keeps_58 (by decide) ?_
  refine x_icmpge hs dX12_keeps_61 rfl (fun hs => ?_) (fun hs => ?_)
  · refine w_lv (lv' := [(0, .ref 80)]) [0] rfl ?_
    cases hs
    exact he0 _ rfl
  · refine w_aload_n 0 dX12_keeps_64 rfl rfl ?_
    refine x_getR 12 5 (b := 85) dX12_keeps_65 (fxX12_23 rfl) rfl rfl (lt_of hnx (Nat.le_of_ble_eq_true rfl)) rfl ?_
    refine x_sipush dX12_keeps_68 (by decide) ?_
    refine w_aload_n 0 dX12_keeps_71 rfl rfl ?_
    refine x_getI 12 6 dX12_keeps_72 (fxX12_80 rfl) rfl rfl (lt_of hnx (Nat.le_of_ble_eq_true rfl)) ?_
    refine x_imul dX12_keeps_75 ?_
    refine w_iload_n 1 dX12_keeps_76 rfl rfl ?_
    refine x_iadd dX12_keeps_77 ?_
    refine w_aload_n 0 dX12_keeps_78 rfl rfl ?_
    refine x_getR 12 1 (b := 81) dX12_keeps_79 (fxX12_9 rfl) rfl rfl (lt_of hnx (Nat.le_of_ble_eq_true rfl)) rfl ?_
    refine w_iload_n 1 dX12_keeps_82 rfl rfl ?_
    refine grd_e hs (fun hg1 hs => ?_)
    refine x_iald hg1 (Nat.le_of_ble_eq_true rfl) dX12_keeps_83 (Or.inl ⟨rfl, (lt_of hnx (Nat.le_of_ble_eq_true rfl))⟩) ?_
    refine grd_e hs (fun hg2 hs => ?_)
    refine x_iast hg2 (Nat.le_of_ble_eq_true rfl) dX12_keeps_84 rfl (lt_of hnx (Nat.le_of_ble_eq_true rfl)) ?_
    refine nam_s hs (fun s3 hs => ?_)
    refine x_iinc (lv' := [(1, vi (x1 + 1)), (0, .ref 80)]) 1 dX12_keeps_85 rfl (Nat.le_of_ble_eq_true rfl) rfl ?_
    refine w_goto dX12_keeps_88 rfl ?_
    refine w_lv (lv' := [(0, .ref 80), (1, vi (x1 + 1))]) [1, 0] rfl ?_
    cases hs
    exact hb _ rfl
set_option maxRecDepth 100000 in
theorem q_Mo_keeps_l57 {C : Cx} {nx : Nat} (hnx : 100 ≤ nx) (x1 : Int) (s : Sg) {o : Sg} (hs : Mo_keeps_l57 x1 s = some o) : ww C M_X12_keeps 0 0 0 nx (QV nx o) (XF) nx 0 0 57 [(0, .ref 80), (1, vi x1)] [] (hp nx s) := by
  unfold Mo_keeps_l57 at hs
  refine bnd_e hs (fun s_4 hw hs => ?_)
  have hE : ww C M_X12_keeps 0 0 0 nx (QV nx o) (XF) nx 0 0 91 [(0, .ref 80)] [] (hp nx s_4) := by
    refine w_aload_n 0 dX12_keeps_91 rfl rfl ?_
    refine w_dup dX12_keeps_92 rfl ?_
    refine x_getI 12 6 dX12_keeps_93 (fxX12_80 rfl) rfl rfl (lt_of hnx (Nat.le_of_ble_eq_true rfl)) ?_
    refine x_iconst dX12_keeps_96 ?_
    refine x_iadd dX12_keeps_97 ?_
    refine x_putI 12 6 dX12_keeps_98 (poX12_80 rfl) rfl rfl (lt_of hnx (Nat.le_of_ble_eq_true rfl)) ?_
    refine nam_s hs (fun s5 hs => ?_)
    cases hs
    exact w_return rfl dX12_keeps_101 rfl (Nat.le_of_ble_eq_true rfl) (Nat.le_of_ble_eq_true rfl) ⟨rfl, rfl⟩
  refine whl_w (P := fun σ => ww C M_X12_keeps 0 0 0 nx (QV nx o) (XF) nx 0 0 57 [(0, .ref 80), (1, vi σ.1)] [] (hp nx σ.2)) (E := fun ρ => ρ = s_4) hw rfl ?_
  intro σ o' hs' hb' he'
  exact q_Mo_keeps_t57 hnx σ.1 σ.2 hs' hb' (fun ρ e => by cases he' _ e; exact hE)
set_option maxRecDepth 100000 in
theorem q_Mo_keeps_b55 {C : Cx} {nx : Nat} (hnx : 100 ≤ nx)  (s : Sg) {o : Sg} (hs : Mo_keeps_b55  s = some o) : ww C M_X12_keeps 0 0 0 nx (QV nx o) (XF) nx 0 0 55 [(0, .ref 80)] [] (hp nx s) := by
  unfold Mo_keeps_b55 at hs
  refine x_iconst dX12_keeps_55 ?_
  refine w_istore_n (lv' := [(1, vi 0), (0, .ref 80)]) dX12_keeps_56 rfl (Nat.le_of_ble_eq_true rfl) rfl ?_
  refine w_lv (lv' := [(0, .ref 80), (1, vi 0)]) [1, 0] rfl ?_
  exact q_Mo_keeps_l57 hnx 0 s hs
set_option maxRecDepth 100000 in
theorem q_Mo_keeps_t21 {C : Cx} {nx : Nat} (hnx : 100 ≤ nx) {Qr : Option Value → Hp → Prop} {Qx : String → Hp → Prop}  (x1 : Int) (s : Sg) {o : ((Int × Sg) ⊕ (Sg))} (hs : Mo_keeps_t21 x1 s = some o) (hb : ∀ σ : Int × Sg, o = .inl σ → ww C M_X12_keeps 0 0 0 nx (Qr) (Qx) nx 0 0 21 [(0, .ref 80), (1, vi σ.1)] [] (hp nx σ.2)) (he0 : ∀ ρ : Sg, o = .inr ρ → ww C M_X12_keeps 0 0 0 nx (Qr) (Qx) nx 0 0 55 [(0, .ref 80)] [] (hp nx ρ)) : ww C M_X12_keeps 0 0 0 nx (Qr) (Qx) nx 0 0 21 [(0, .ref 80), (1, vi x1)] [] (hp nx s) := by
  unfold Mo_keeps_t21 at hs
  refine w_iload_n 1 dX12_keeps_21 rfl rfl ?_
  refine w_aload_n 0 dX12_keeps_22 rfl rfl ?_
  refine x_getI 12 6 dX12_keeps_23 (fxX12_80 rfl) rfl rfl (lt_of hnx (Nat.le_of_ble_eq_true rfl)) ?_
  refine x_sipush dX12_keeps_26 (by decide) ?_
  refine x_imul dX12_keeps_29 ?_
  refine x_icmpge hs dX12_keeps_30 rfl (fun hs => ?_) (fun hs => ?_)
  · refine w_lv (lv' := [(0, .ref 80)]) [0] rfl ?_
    cases hs
    exact he0 _ rfl
  · refine w_aload_n 0 dX12_keeps_33 rfl rfl ?_
    refine x_getR 12 5 (b := 85) dX12_keeps_34 (fxX12_23 rfl) rfl rfl (lt_of hnx (Nat.le_of_ble_eq_true rfl)) rfl ?_
    refine w_iload_n 1 dX12_keeps_37 rfl rfl ?_
    refine w_aload_n 0 dX12_keeps_38 rfl rfl ?_
    refine x_getR 12 5 (b := 85) dX12_keeps_39 (fxX12_23 rfl) rfl rfl (lt_of hnx (Nat.le_of_ble_eq_true rfl)) rfl ?_
    refine w_iload_n 1 dX12_keeps_42 rfl rfl ?_
    refine x_sipush dX12_keeps_43 (by decide) ?_
    refine x_iadd dX12_keeps_46 ?_
    refine grd_e hs (fun hg7 hs => ?_)
    refine x_iald hg7 (Nat.le_of_ble_eq_true rfl) dX12_keeps_47 (Or.inl ⟨rfl, (lt_of hnx (Nat.le_of_ble_eq_true rfl))⟩) ?_
    refine grd_e hs (fun hg8 hs => ?_)
    refine x_iast hg8 (Nat.le_of_ble_eq_true rfl) dX12_keeps_48 rfl (lt_of hnx (Nat.le_of_ble_eq_true rfl)) ?_
    refine nam_s hs (fun s9 hs => ?_)
    refine x_iinc (lv' := [(1, vi (x1 + 1)), (0, .ref 80)]) 1 dX12_keeps_49 rfl (Nat.le_of_ble_eq_true rfl) rfl ?_
    refine w_goto dX12_keeps_52 rfl ?_
    refine w_lv (lv' := [(0, .ref 80), (1, vi (x1 + 1))]) [1, 0] rfl ?_
    cases hs
    exact hb _ rfl
set_option maxRecDepth 100000 in
theorem q_Mo_keeps_l21 {C : Cx} {nx : Nat} (hnx : 100 ≤ nx) (x1 : Int) (s : Sg) {o : Sg} (hs : Mo_keeps_l21 x1 s = some o) : ww C M_X12_keeps 0 0 0 nx (QV nx o) (XF) nx 0 0 21 [(0, .ref 80), (1, vi x1)] [] (hp nx s) := by
  unfold Mo_keeps_l21 at hs
  refine bnd_e hs (fun s_10 hw hs => ?_)
  have hE : ww C M_X12_keeps 0 0 0 nx (QV nx o) (XF) nx 0 0 55 [(0, .ref 80)] [] (hp nx s_10) := by
    exact q_Mo_keeps_b55 hnx  s_10 hs
  refine whl_w (P := fun σ => ww C M_X12_keeps 0 0 0 nx (QV nx o) (XF) nx 0 0 21 [(0, .ref 80), (1, vi σ.1)] [] (hp nx σ.2)) (E := fun ρ => ρ = s_10) hw rfl ?_
  intro σ o' hs' hb' he'
  exact q_Mo_keeps_t21 hnx σ.1 σ.2 hs' hb' (fun ρ e => by cases he' _ e; exact hE)
set_option maxRecDepth 100000 in
theorem c_Mo_keeps {C : Cx} {nx : Nat} (hnx : 100 ≤ nx)  (s : Sg) : ∀ o, Mo_keeps  s = some o → mm C M_X12_keeps 0 0 0 nx nx [.ref 80] (hp nx s) (QV nx o) (XF) := by
  intro o hs
  unfold Mo_keeps at hs
  refine mm_of rfl rfl (Nat.le_of_ble_eq_true rfl) ?_
  show ww C M_X12_keeps 0 0 0 nx (QV nx o) (XF) nx 0 0 0 [(0, .ref 80)] [] (hp nx s)
  refine w_aload_n 0 dX12_keeps_0 rfl rfl ?_
  refine x_getI 12 6 dX12_keeps_1 (fxX12_80 rfl) rfl rfl (lt_of hnx (Nat.le_of_ble_eq_true rfl)) ?_
  refine x_bipush dX12_keeps_4 (by decide) ?_
  refine x_icmpne hs dX12_keeps_6 rfl (fun hs => ?_) (fun hs => ?_)
  · exact q_Mo_keeps_b55 hnx  s hs
  · refine w_aload_n 0 dX12_keeps_9 rfl rfl ?_
    refine w_dup dX12_keeps_10 rfl ?_
    refine x_getI 12 6 dX12_keeps_11 (fxX12_80 rfl) rfl rfl (lt_of hnx (Nat.le_of_ble_eq_true rfl)) ?_
    refine x_iconst dX12_keeps_14 ?_
    refine x_isub dX12_keeps_15 ?_
    refine x_putI 12 6 dX12_keeps_16 (poX12_80 rfl) rfl rfl (lt_of hnx (Nat.le_of_ble_eq_true rfl)) ?_
    refine nam_s hs (fun s6 hs => ?_)
    refine x_iconst dX12_keeps_19 ?_
    refine w_istore_n (lv' := [(1, vi 0), (0, .ref 80)]) dX12_keeps_20 rfl (Nat.le_of_ble_eq_true rfl) rfl ?_
    refine w_lv (lv' := [(0, .ref 80), (1, vi 0)]) [1, 0] rfl ?_
    exact q_Mo_keeps_l21 hnx 0 s6 hs
set_option maxRecDepth 100000 in
theorem q_Mo_append_b39 {C : Cx} {nx : Nat} (hnx : 100 ≤ nx) {Qr : Option Value → Hp → Prop} {Qx : String → Hp → Prop}  (x1 : Int) (x4 : Int) (t0 : Int) (t1 : Int) (s : Sg) {o : ((Int × Int) ⊕ (Int))} (hs : Mo_append_b39 x1 x4 t0 t1 s = some o) (hb : ∀ σ : Int × Int, o = .inl σ → ww C M_X12_append 0 0 0 nx (Qr) (Qx) nx 0 0 10 [(0, .ref 80), (1, vl x1), (3, vi σ.1), (4, vi σ.2)] [] (hp nx s)) (he0 : ∀ ρ : Int, o = .inr ρ → ww C M_X12_append 0 0 0 nx (Qr) (Qx) nx 0 0 47 [(0, .ref 80), (1, vl x1), (3, vi ρ)] [] (hp nx s)) : ww C M_X12_append 0 0 0 nx (Qr) (Qx) nx 0 0 39 [(0, .ref 80), (1, vl x1), (4, vi x4)] [vi t1, vi t0] (hp nx s) := by
  unfold Mo_append_b39 at hs
  refine x_iadd dX12_append_39 ?_
  refine x_istore_n (fun x3_3 => [(3, vi x3_3), (0, .ref 80), (1, vl x1), (4, vi x4)]) hs dX12_append_40 rfl (Nat.le_of_ble_eq_true rfl) (fun _ => rfl) (fun x3_3 hs => ?_)
  refine x_iinc (lv' := [(4, vi (x4 + 1)), (3, vi x3_3), (0, .ref 80), (1, vl x1)]) 3 dX12_append_41 rfl (Nat.le_of_ble_eq_true rfl) rfl ?_
  refine w_goto dX12_append_44 rfl ?_
  refine w_lv (lv' := [(0, .ref 80), (1, vl x1), (3, vi x3_3), (4, vi (x4 + 1))]) [2, 3, 1, 0] rfl ?_
  cases hs
  exact hb _ rfl
set_option maxRecDepth 100000 in
theorem q_Mo_append_t10 {C : Cx} {nx : Nat} (hnx : 100 ≤ nx) {Qr : Option Value → Hp → Prop} {Qx : String → Hp → Prop}  (x1 : Int) (x3 : Int) (x4 : Int) (s : Sg) {o : ((Int × Int) ⊕ (Int))} (hs : Mo_append_t10 x1 x3 x4 s = some o) (hb : ∀ σ : Int × Int, o = .inl σ → ww C M_X12_append 0 0 0 nx (Qr) (Qx) nx 0 0 10 [(0, .ref 80), (1, vl x1), (3, vi σ.1), (4, vi σ.2)] [] (hp nx s)) (he0 : ∀ ρ : Int, o = .inr ρ → ww C M_X12_append 0 0 0 nx (Qr) (Qx) nx 0 0 47 [(0, .ref 80), (1, vl x1), (3, vi ρ)] [] (hp nx s)) : ww C M_X12_append 0 0 0 nx (Qr) (Qx) nx 0 0 10 [(0, .ref 80), (1, vl x1), (3, vi x3), (4, vi x4)] [] (hp nx s) := by
  unfold Mo_append_t10 at hs
  refine w_iload 3 dX12_append_10 rfl ?_
  refine x_bipush dX12_append_12 (by decide) ?_
  refine x_icmpge hs dX12_append_14 rfl (fun hs => ?_) (fun hs => ?_)
  · refine w_lv (lv' := [(0, .ref 80), (1, vl x1), (3, vi x3)]) [0, 1, 2] rfl ?_
    cases hs
    exact he0 _ rfl
  · refine w_iload_n 2 dX12_append_17 rfl rfl ?_
    refine w_lload_n 1 dX12_append_18 rfl rfl ?_
    refine x_bipush dX12_append_19 (by decide) ?_
    refine w_iload 3 dX12_append_21 rfl ?_
    refine x_imul dX12_append_23 ?_
    refine x_lshr dX12_append_24 ?_
    refine x_ldc2 255 dX12_append_25 (csX12_83 rfl) ?_
    refine x_land dX12_append_28 ?_
    refine x_lconst (x := 0) dX12_append_29 (by decide) ?_
    refine grd_e hs (fun hg2 hs => ?_)
    refine x_lcmp dX12_append_30 hg2.1 hg2.2 ?_
    refine x_ifne hs dX12_append_31 rfl (fun hs => ?_) (fun hs => ?_)
    · refine x_iconst dX12_append_38 ?_
      refine w_lv (lv' := [(0, .ref 80), (1, vl x1), (4, vi x4)]) [0, 1, 3] rfl ?_
      exact q_Mo_append_b39 hnx x1 x4 x3 1 s hs hb he0
    · refine x_iconst dX12_append_34 ?_
      refine w_goto dX12_append_35 rfl ?_
      refine w_lv (lv' := [(0, .ref 80), (1, vl x1), (4, vi x4)]) [0, 1, 3] rfl ?_
      exact q_Mo_append_b39 hnx x1 x4 x3 0 s hs hb he0
set_option maxRecDepth 100000 in
theorem q_Mo_append_b117 {C : Cx} {nx : Nat} (hnx : 100 ≤ nx) {Qr : Option Value → Hp → Prop} {Qx : String → Hp → Prop}  (x1 : Int) (x4 : Int) (s : Sg) {o : ((Int × Sg) ⊕ (Sg))} (hs : Mo_append_b117 x1 x4 s = some o) (hb : ∀ σ : Int × Sg, o = .inl σ → ww C M_X12_append 0 0 0 nx (Qr) (Qx) nx 0 0 66 [(0, .ref 80), (1, vl x1), (4, vi σ.1)] [] (hp nx σ.2)) (he0 : ∀ ρ : Sg, o = .inr ρ → ww C M_X12_append 0 0 0 nx (Qr) (Qx) nx 0 0 123 [(0, .ref 80)] [] (hp nx ρ)) : ww C M_X12_append 0 0 0 nx (Qr) (Qx) nx 0 0 117 [(0, .ref 80), (1, vl x1), (4, vi x4)] [] (hp nx s) := by
  unfold Mo_append_b117 at hs
  refine x_iinc (lv' := [(4, vi (x4 + (-1))), (0, .ref 80), (1, vl x1)]) 2 dX12_append_117 rfl (Nat.le_of_ble_eq_true rfl) rfl ?_
  refine w_goto dX12_append_120 rfl ?_
  refine w_lv (lv' := [(0, .ref 80), (1, vl x1), (4, vi (x4 + (-1)))]) [1, 2, 0] rfl ?_
  cases hs
  exact hb _ rfl
set_option maxRecDepth 100000 in
theorem q_Mo_append_t66 {C : Cx} {nx : Nat} (hnx : 100 ≤ nx) {Qr : Option Value → Hp → Prop} {Qx : String → Hp → Prop}  (x1 : Int) (x4 : Int) (s : Sg) {o : ((Int × Sg) ⊕ (Sg))} (hs : Mo_append_t66 x1 x4 s = some o) (hb : ∀ σ : Int × Sg, o = .inl σ → ww C M_X12_append 0 0 0 nx (Qr) (Qx) nx 0 0 66 [(0, .ref 80), (1, vl x1), (4, vi σ.1)] [] (hp nx σ.2)) (he0 : ∀ ρ : Sg, o = .inr ρ → ww C M_X12_append 0 0 0 nx (Qr) (Qx) nx 0 0 123 [(0, .ref 80)] [] (hp nx ρ)) : ww C M_X12_append 0 0 0 nx (Qr) (Qx) nx 0 0 66 [(0, .ref 80), (1, vl x1), (4, vi x4)] [] (hp nx s) := by
  unfold Mo_append_t66 at hs
  refine w_iload 2 dX12_append_66 rfl ?_
  refine x_iflt hs dX12_append_68 rfl (fun hs => ?_) (fun hs => ?_)
  · refine w_lv (lv' := [(0, .ref 80)]) [0] rfl ?_
    cases hs
    exact he0 _ rfl
  · refine w_lload_n 1 dX12_append_71 rfl rfl ?_
    refine x_bipush dX12_append_72 (by decide) ?_
    refine w_iload 2 dX12_append_74 rfl ?_
    refine x_imul dX12_append_76 ?_
    refine x_lshr dX12_append_77 ?_
    refine x_ldc2 255 dX12_append_78 (csX12_83 rfl) ?_
    refine x_land dX12_append_81 ?_
    refine x_lstore (fun x5_5 => [(5, vl x5_5), (0, .ref 80), (1, vl x1), (4, vi x4)]) hs dX12_append_82 (Nat.le_of_ble_eq_true rfl) (fun _ => rfl) (fun x5_5 hs => ?_)
    refine w_lload 0 dX12_append_84 rfl ?_
    refine x_lconst (x := 0) dX12_append_86 (by decide) ?_
    refine grd_e hs (fun hg6 hs => ?_)
    refine x_lcmp dX12_append_87 hg6.1 hg6.2 ?_
    refine x_ifne hs dX12_append_88 rfl (fun hs => ?_) (fun hs => ?_)
    · refine w_aload_n 1 dX12_append_94 rfl rfl ?_
      refine x_getR 12 7 (b := 86) dX12_append_95 (fxX12_26 rfl) rfl rfl (lt_of hnx (Nat.le_of_ble_eq_true rfl)) rfl ?_
      refine w_aload_n 1 dX12_append_98 rfl rfl ?_
      refine x_getI 12 8 dX12_append_99 (fxX12_85 rfl) rfl rfl (lt_of hnx (Nat.le_of_ble_eq_true rfl)) ?_
      refine w_lload 0 dX12_append_102 rfl ?_
      refine x_l2i dX12_append_104 ?_
      refine x_i2b dX12_append_105 ?_
      refine grd_e hs (fun hg7 hs => ?_)
      refine x_bast hg7 (Nat.le_of_ble_eq_true rfl) dX12_append_106 rfl (lt_of hnx (Nat.le_of_ble_eq_true rfl)) ?_
      refine nam_s hs (fun s8 hs => ?_)
      refine w_aload_n 1 dX12_append_107 rfl rfl ?_
      refine w_dup dX12_append_108 rfl ?_
      refine x_getI 12 8 dX12_append_109 (fxX12_85 rfl) rfl rfl (lt_of hnx (Nat.le_of_ble_eq_true rfl)) ?_
      refine x_iconst dX12_append_112 ?_
      refine x_iadd dX12_append_113 ?_
      refine x_putI 12 8 dX12_append_114 (poX12_85 rfl) rfl rfl (lt_of hnx (Nat.le_of_ble_eq_true rfl)) ?_
      refine nam_s hs (fun s9 hs => ?_)
      refine w_lv (lv' := [(0, .ref 80), (1, vl x1), (4, vi x4)]) [1, 2, 3] rfl ?_
      exact q_Mo_append_b117 hnx x1 x4 s9 hs hb he0
    · refine w_goto dX12_append_91 rfl ?_
      refine w_lv (lv' := [(0, .ref 80), (1, vl x1), (4, vi x4)]) [1, 2, 3] rfl ?_
      exact q_Mo_append_b117 hnx x1 x4 s hs hb he0
set_option maxRecDepth 100000 in
theorem q_Mo_append_l66 {C : Cx} {nx : Nat} (hnx : 100 ≤ nx) (x1 : Int) (x4 : Int) (s : Sg) {o : Int × Sg} (hs : Mo_append_l66 x1 x4 s = some o) : ww C M_X12_append 0 0 0 nx (QI nx o.2 o.1) (XF) nx 0 0 66 [(0, .ref 80), (1, vl x1), (4, vi x4)] [] (hp nx s) := by
  unfold Mo_append_l66 at hs
  refine bnd_e hs (fun s_10 hw hs => ?_)
  have hE : ww C M_X12_append 0 0 0 nx (QI nx o.2 o.1) (XF) nx 0 0 123 [(0, .ref 80)] [] (hp nx s_10) := by
    refine w_aload_n 0 dX12_append_123 rfl rfl ?_
    refine x_getI 12 8 dX12_append_124 (fxX12_85 rfl) rfl rfl (lt_of hnx (Nat.le_of_ble_eq_true rfl)) ?_
    cases hs
    exact x_ireturn dX12_append_127 rfl rfl (Nat.le_of_ble_eq_true rfl) (Nat.le_of_ble_eq_true rfl) ⟨rfl, rfl⟩
  refine whl_w (P := fun σ => ww C M_X12_append 0 0 0 nx (QI nx o.2 o.1) (XF) nx 0 0 66 [(0, .ref 80), (1, vl x1), (4, vi σ.1)] [] (hp nx σ.2)) (E := fun ρ => ρ = s_10) hw rfl ?_
  intro σ o' hs' hb' he'
  exact q_Mo_append_t66 hnx x1 σ.1 σ.2 hs' hb' (fun ρ e => by cases he' _ e; exact hE)
set_option maxRecDepth 100000 in
theorem q_Mo_append_l10 {C : Cx} {nx : Nat} (hnx : 100 ≤ nx) (x1 : Int) (x3 : Int) (x4 : Int) (s : Sg) {o : Int × Sg} (hs : Mo_append_l10 x1 x3 x4 s = some o) : ww C M_X12_append 0 0 0 nx (QI nx o.2 o.1) (XF) nx 0 0 10 [(0, .ref 80), (1, vl x1), (3, vi x3), (4, vi x4)] [] (hp nx s) := by
  unfold Mo_append_l10 at hs
  refine bnd_e hs (fun x3_4 hw hs => ?_)
  have hE : ww C M_X12_append 0 0 0 nx (QI nx o.2 o.1) (XF) nx 0 0 47 [(0, .ref 80), (1, vl x1), (3, vi x3_4)] [] (hp nx s) := by
    refine w_aload_n 0 dX12_append_47 rfl rfl ?_
    refine x_getI 12 8 dX12_append_48 (fxX12_85 rfl) rfl rfl (lt_of hnx (Nat.le_of_ble_eq_true rfl)) ?_
    refine w_iload_n 2 dX12_append_51 rfl rfl ?_
    refine x_iadd dX12_append_52 ?_
    refine x_sipush dX12_append_53 (by decide) ?_
    refine x_icmple hs dX12_append_56 rfl (fun hs => ?_) (fun hs => ?_)
    · refine x_bipush dX12_append_62 (by decide) ?_
      refine w_istore (lv' := [(4, vi 7), (0, .ref 80), (1, vl x1), (3, vi x3_4)]) dX12_append_64 (Nat.le_of_ble_eq_true rfl) rfl ?_
      refine w_lv (lv' := [(0, .ref 80), (1, vl x1), (4, vi 7)]) [1, 2, 0] rfl ?_
      exact q_Mo_append_l66 hnx x1 7 s hs
    · refine x_bipush dX12_append_59 (by decide) ?_
      cases hs
      exact x_ireturn dX12_append_61 rfl rfl (Nat.le_of_ble_eq_true rfl) (Nat.le_of_ble_eq_true rfl) ⟨rfl, rfl⟩
  refine whl_w (P := fun σ => ww C M_X12_append 0 0 0 nx (QI nx o.2 o.1) (XF) nx 0 0 10 [(0, .ref 80), (1, vl x1), (3, vi σ.1), (4, vi σ.2)] [] (hp nx s)) (E := fun ρ => ρ = x3_4) hw rfl ?_
  intro σ o' hs' hb' he'
  exact q_Mo_append_t10 hnx x1 σ.1 σ.2 s hs' hb' (fun ρ e => by cases he' _ e; exact hE)
set_option maxRecDepth 100000 in
theorem c_Mo_append {C : Cx} {nx : Nat} (hnx : 100 ≤ nx) (x1 : Int) (s : Sg) : ∀ o, Mo_append x1 s = some o → mm C M_X12_append 0 0 0 nx nx [.ref 80, vl x1] (hp nx s) (QI nx o.2 o.1) (XF) := by
  intro o hs
  unfold Mo_append at hs
  refine mm_of rfl rfl (Nat.le_of_ble_eq_true rfl) ?_
  show ww C M_X12_append 0 0 0 nx (QI nx o.2 o.1) (XF) nx 0 0 0 [(0, .ref 80), (1, vl x1)] [] (hp nx s)
  refine w_aload_n 0 dX12_append_0 rfl rfl ?_
  refine x_iconst dX12_append_1 ?_
  refine x_putI 12 0 dX12_append_2 (poX12_77 rfl) rfl rfl (lt_of hnx (Nat.le_of_ble_eq_true rfl)) ?_
  refine nam_s hs (fun s1 hs => ?_)
  refine x_iconst dX12_append_5 ?_
  refine w_istore_n (lv' := [(3, vi 0), (0, .ref 80), (1, vl x1)]) dX12_append_6 rfl (Nat.le_of_ble_eq_true rfl) rfl ?_
  refine x_iconst dX12_append_7 ?_
  refine w_istore (lv' := [(4, vi 0), (3, vi 0), (0, .ref 80), (1, vl x1)]) dX12_append_8 (Nat.le_of_ble_eq_true rfl) rfl ?_
  refine w_lv (lv' := [(0, .ref 80), (1, vl x1), (3, vi 0), (4, vi 0)]) [2, 3, 1, 0] rfl ?_
  exact q_Mo_append_l10 hnx x1 0 0 s1 hs
set_option maxRecDepth 100000 in
theorem c_Mo_fails {C : Cx} {nx : Nat} (hnx : 100 ≤ nx) (x1 : Int) (x2 : Int) (s : Sg) : ∀ o, Mo_fails x1 x2 s = some o → mm C M_X12_fails 0 0 0 nx nx [.ref 80, vi x1, vi x2] (hp nx s) (QI nx o.2 o.1) (XF) := by
  intro o hs
  unfold Mo_fails at hs
  refine mm_of rfl rfl (Nat.le_of_ble_eq_true rfl) ?_
  show ww C M_X12_fails 0 0 0 nx (QI nx o.2 o.1) (XF) nx 0 0 0 [(0, .ref 80), (1, vi x1), (2, vi x2)] [] (hp nx s)
  refine w_aload_n 0 dX12_fails_0 rfl rfl ?_
  refine w_iload_n 1 dX12_fails_1 rfl rfl ?_
  refine x_putI 12 12 dX12_fails_2 (poX12_88 rfl) rfl rfl (lt_of hnx (Nat.le_of_ble_eq_true rfl)) ?_
  refine nam_s hs (fun s1 hs => ?_)
  refine w_aload_n 0 dX12_fails_5 rfl rfl ?_
  refine w_iload_n 2 dX12_fails_6 rfl rfl ?_
  refine x_putI 12 13 dX12_fails_7 (poX12_91 rfl) rfl rfl (lt_of hnx (Nat.le_of_ble_eq_true rfl)) ?_
  refine nam_s hs (fun s2 hs => ?_)
  refine x_iconst dX12_fails_10 ?_
  cases hs
  exact x_zreturn (Or.inl rfl) dX12_fails_11 rfl rfl (Nat.le_of_ble_eq_true rfl) (Nat.le_of_ble_eq_true rfl) ⟨rfl, rfl⟩
set_option maxRecDepth 100000 in
theorem q_Mo_nextByte_t0 {C : Cx} {nx : Nat} (hnx : 100 ≤ nx) {Qr : Option Value → Hp → Prop} {Qx : String → Hp → Prop}   (s : Sg) {o : ((Sg) ⊕ (Sg))} (hs : Mo_nextByte_t0  s = some o) (hb : ∀ σ : Sg, o = .inl σ → ww C M_X12_nextByte 0 0 0 nx (Qr) (Qx) nx 0 0 0 [(0, .ref 80)] [] (hp nx σ)) (he0 : ∀ ρ : Sg, o = .inr ρ → ww C M_X12_nextByte 0 0 0 nx (Qr) (Qx) nx 0 0 38 [(0, .ref 80)] [] (hp nx ρ)) : ww C M_X12_nextByte 0 0 0 nx (Qr) (Qx) nx 0 0 0 [(0, .ref 80)] [] (hp nx s) := by
  unfold Mo_nextByte_t0 at hs
  refine w_aload_n 0 dX12_nextByte_0 rfl rfl ?_
  refine x_getI 12 9 dX12_nextByte_1 (fxX12_94 rfl) rfl rfl (lt_of hnx (Nat.le_of_ble_eq_true rfl)) ?_
  refine w_aload_n 0 dX12_nextByte_4 rfl rfl ?_
  refine x_getI 12 8 dX12_nextByte_5 (fxX12_85 rfl) rfl rfl (lt_of hnx (Nat.le_of_ble_eq_true rfl)) ?_
  refine x_icmpge hs dX12_nextByte_8 rfl (fun hs => ?_) (fun hs => ?_)
  · cases hs
    exact he0 _ rfl
  · refine w_aload_n 0 dX12_nextByte_11 rfl rfl ?_
    refine x_getR 12 7 (b := 86) dX12_nextByte_12 (fxX12_26 rfl) rfl rfl (lt_of hnx (Nat.le_of_ble_eq_true rfl)) rfl ?_
    refine w_aload_n 0 dX12_nextByte_15 rfl rfl ?_
    refine x_getI 12 9 dX12_nextByte_16 (fxX12_94 rfl) rfl rfl (lt_of hnx (Nat.le_of_ble_eq_true rfl)) ?_
    refine grd_e hs (fun hg1 hs => ?_)
    refine x_bald hg1 (Nat.le_of_ble_eq_true rfl) dX12_nextByte_19 rfl (lt_of hnx (Nat.le_of_ble_eq_true rfl)) ?_
    refine x_bipush dX12_nextByte_20 (by decide) ?_
    refine x_icmpne hs dX12_nextByte_22 rfl (fun hs => ?_) (fun hs => ?_)
    · cases hs
      exact he0 _ rfl
    · refine w_aload_n 0 dX12_nextByte_25 rfl rfl ?_
      refine w_dup dX12_nextByte_26 rfl ?_
      refine x_getI 12 9 dX12_nextByte_27 (fxX12_94 rfl) rfl rfl (lt_of hnx (Nat.le_of_ble_eq_true rfl)) ?_
      refine x_iconst dX12_nextByte_30 ?_
      refine x_iadd dX12_nextByte_31 ?_
      refine x_putI 12 9 dX12_nextByte_32 (poX12_94 rfl) rfl rfl (lt_of hnx (Nat.le_of_ble_eq_true rfl)) ?_
      refine nam_s hs (fun s2 hs => ?_)
      refine w_goto dX12_nextByte_35 rfl ?_
      cases hs
      exact hb _ rfl
set_option maxRecDepth 100000 in
theorem q_Mo_nextByte_b38 {C : Cx} {nx : Nat} (hnx : 100 ≤ nx)  (s : Sg) {o : Int × Sg} (hs : Mo_nextByte_b38  s = some o) : ww C M_X12_nextByte 0 0 0 nx (QI nx o.2 o.1) (XF) nx 0 0 38 [(0, .ref 80)] [] (hp nx s) := by
  unfold Mo_nextByte_b38 at hs
  refine w_aload_n 0 dX12_nextByte_38 rfl rfl ?_
  refine w_aload_n 0 dX12_nextByte_39 rfl rfl ?_
  refine x_getI 12 9 dX12_nextByte_40 (fxX12_94 rfl) rfl rfl (lt_of hnx (Nat.le_of_ble_eq_true rfl)) ?_
  refine x_putI 12 10 dX12_nextByte_43 (poX12_97 rfl) rfl rfl (lt_of hnx (Nat.le_of_ble_eq_true rfl)) ?_
  refine nam_s hs (fun s4 hs => ?_)
  refine w_aload_n 0 dX12_nextByte_46 rfl rfl ?_
  refine x_getI 12 9 dX12_nextByte_47 (fxX12_94 rfl) rfl rfl (lt_of hnx (Nat.le_of_ble_eq_true rfl)) ?_
  refine w_aload_n 0 dX12_nextByte_50 rfl rfl ?_
  refine x_getI 12 8 dX12_nextByte_51 (fxX12_85 rfl) rfl rfl (lt_of hnx (Nat.le_of_ble_eq_true rfl)) ?_
  refine x_icmpge hs dX12_nextByte_54 rfl (fun hs => ?_) (fun hs => ?_)
  · refine x_iconst dX12_nextByte_73 ?_
    cases hs
    exact x_ireturn dX12_nextByte_74 rfl rfl (Nat.le_of_ble_eq_true rfl) (Nat.le_of_ble_eq_true rfl) ⟨rfl, rfl⟩
  · refine w_aload_n 0 dX12_nextByte_57 rfl rfl ?_
    refine x_getR 12 7 (b := 86) dX12_nextByte_58 (fxX12_26 rfl) rfl rfl (lt_of hnx (Nat.le_of_ble_eq_true rfl)) rfl ?_
    refine w_aload_n 0 dX12_nextByte_61 rfl rfl ?_
    refine x_getI 12 9 dX12_nextByte_62 (fxX12_94 rfl) rfl rfl (lt_of hnx (Nat.le_of_ble_eq_true rfl)) ?_
    refine grd_e hs (fun hg5 hs => ?_)
    refine x_bald hg5 (Nat.le_of_ble_eq_true rfl) dX12_nextByte_65 rfl (lt_of hnx (Nat.le_of_ble_eq_true rfl)) ?_
    refine x_sipush dX12_nextByte_66 (by decide) ?_
    refine x_iand dX12_nextByte_69 ?_
    refine w_goto dX12_nextByte_70 rfl ?_
    cases hs
    exact x_ireturn dX12_nextByte_74 rfl rfl (Nat.le_of_ble_eq_true rfl) (Nat.le_of_ble_eq_true rfl) ⟨rfl, rfl⟩
set_option maxRecDepth 100000 in
theorem q_Mo_nextByte_l0 {C : Cx} {nx : Nat} (hnx : 100 ≤ nx)  (s : Sg) {o : Int × Sg} (hs : Mo_nextByte_l0  s = some o) : ww C M_X12_nextByte 0 0 0 nx (QI nx o.2 o.1) (XF) nx 0 0 0 [(0, .ref 80)] [] (hp nx s) := by
  unfold Mo_nextByte_l0 at hs
  refine bnd_e hs (fun s_3 hw hs => ?_)
  have hE : ww C M_X12_nextByte 0 0 0 nx (QI nx o.2 o.1) (XF) nx 0 0 38 [(0, .ref 80)] [] (hp nx s_3) := by
    exact q_Mo_nextByte_b38 hnx  s_3 hs
  refine whl_w (P := fun σ => ww C M_X12_nextByte 0 0 0 nx (QI nx o.2 o.1) (XF) nx 0 0 0 [(0, .ref 80)] [] (hp nx σ)) (E := fun ρ => ρ = s_3) hw rfl ?_
  intro σ o' hs' hb' he'
  exact q_Mo_nextByte_t0 hnx  σ hs' hb' (fun ρ e => by cases he' _ e; exact hE)
set_option maxRecDepth 100000 in
theorem c_Mo_nextByte {C : Cx} {nx : Nat} (hnx : 100 ≤ nx)  (s : Sg) : ∀ o, Mo_nextByte  s = some o → mm C M_X12_nextByte 0 0 0 nx nx [.ref 80] (hp nx s) (QI nx o.2 o.1) (XF) := by
  intro o hs
  unfold Mo_nextByte at hs
  refine mm_of rfl rfl (Nat.le_of_ble_eq_true rfl) ?_
  show ww C M_X12_nextByte 0 0 0 nx (QI nx o.2 o.1) (XF) nx 0 0 0 [(0, .ref 80)] [] (hp nx s)
  exact q_Mo_nextByte_l0 hnx  s hs
set_option maxRecDepth 100000 in
theorem c_Mo_isAt {C : Cx} {nx : Nat} (hnx : 100 ≤ nx) (x1 : Int) (x2 : Int) (x3 : Int) (s : Sg) : ∀ o, Mo_isAt x1 x2 x3 s = some o → mm C M_X12_isAt 0 0 0 nx nx [.ref 80, vi x1, vi x2, vi x3] (hp nx s) (QI nx s o) (XF) := by
  intro o hs
  unfold Mo_isAt at hs
  refine mm_of rfl rfl (Nat.le_of_ble_eq_true rfl) ?_
  show ww C M_X12_isAt 0 0 0 nx (QI nx s o) (XF) nx 0 0 0 [(0, .ref 80), (1, vi x1), (2, vi x2), (3, vi x3)] [] (hp nx s)
  refine w_iload_n 1 dX12_isAt_0 rfl rfl ?_
  refine w_aload_n 0 dX12_isAt_1 rfl rfl ?_
  refine x_getI 12 8 dX12_isAt_2 (fxX12_85 rfl) rfl rfl (lt_of hnx (Nat.le_of_ble_eq_true rfl)) ?_
  refine x_icmpge hs dX12_isAt_5 rfl (fun hs => ?_) (fun hs => ?_)
  · refine x_iconst dX12_isAt_32 ?_
    cases hs
    exact x_zreturn (Or.inl rfl) dX12_isAt_33 rfl rfl (Nat.le_of_ble_eq_true rfl) (Nat.le_of_ble_eq_true rfl) ⟨rfl, rfl⟩
  · refine w_aload_n 0 dX12_isAt_8 rfl rfl ?_
    refine x_getR 12 7 (b := 86) dX12_isAt_9 (fxX12_26 rfl) rfl rfl (lt_of hnx (Nat.le_of_ble_eq_true rfl)) rfl ?_
    refine w_iload_n 1 dX12_isAt_12 rfl rfl ?_
    refine grd_e hs (fun hg1 hs => ?_)
    refine x_bald hg1 (Nat.le_of_ble_eq_true rfl) dX12_isAt_13 rfl (lt_of hnx (Nat.le_of_ble_eq_true rfl)) ?_
    refine w_iload_n 2 dX12_isAt_14 rfl rfl ?_
    refine x_icmplt hs dX12_isAt_15 rfl (fun hs => ?_) (fun hs => ?_)
    · refine x_iconst dX12_isAt_32 ?_
      cases hs
      exact x_zreturn (Or.inl rfl) dX12_isAt_33 rfl rfl (Nat.le_of_ble_eq_true rfl) (Nat.le_of_ble_eq_true rfl) ⟨rfl, rfl⟩
    · refine w_aload_n 0 dX12_isAt_18 rfl rfl ?_
      refine x_getR 12 7 (b := 86) dX12_isAt_19 (fxX12_26 rfl) rfl rfl (lt_of hnx (Nat.le_of_ble_eq_true rfl)) rfl ?_
      refine w_iload_n 1 dX12_isAt_22 rfl rfl ?_
      refine grd_e hs (fun hg2 hs => ?_)
      refine x_bald hg2 (Nat.le_of_ble_eq_true rfl) dX12_isAt_23 rfl (lt_of hnx (Nat.le_of_ble_eq_true rfl)) ?_
      refine w_iload_n 3 dX12_isAt_24 rfl rfl ?_
      refine x_icmpgt hs dX12_isAt_25 rfl (fun hs => ?_) (fun hs => ?_)
      · refine x_iconst dX12_isAt_32 ?_
        cases hs
        exact x_zreturn (Or.inl rfl) dX12_isAt_33 rfl rfl (Nat.le_of_ble_eq_true rfl) (Nat.le_of_ble_eq_true rfl) ⟨rfl, rfl⟩
      · refine x_iconst dX12_isAt_28 ?_
        refine w_goto dX12_isAt_29 rfl ?_
        cases hs
        exact x_zreturn (Or.inr rfl) dX12_isAt_33 rfl rfl (Nat.le_of_ble_eq_true rfl) (Nat.le_of_ble_eq_true rfl) ⟨rfl, rfl⟩
set_option maxRecDepth 100000 in
theorem c_Mo_isLetterNext {C : Cx} {nx : Nat} (hnx : 100 ≤ nx)  (s : Sg) : ∀ o, Mo_isLetterNext  s = some o → mm C M_X12_isLetterNext 1 0 0 nx nx [.ref 80] (hp nx s) (QI nx o.2 o.1) (XF) := by
  intro o hs
  unfold Mo_isLetterNext at hs
  refine mm_of rfl rfl (Nat.le_of_ble_eq_true rfl) ?_
  show ww C M_X12_isLetterNext 1 0 0 nx (QI nx o.2 o.1) (XF) nx 0 0 0 [(0, .ref 80)] [] (hp nx s)
  refine w_aload_n 0 dX12_isLetterNext_0 rfl rfl ?_
  refine x_V_B M_X12_nextByte [] [] hs rfl dX12_isLetterNext_1 (lkX12_100 _ rfl) (lt_of hnx (Nat.le_of_ble_eq_true rfl)) rfl rfl (Nat.le_of_ble_eq_true rfl) (Nat.le_of_ble_eq_true rfl) (Nat.le_of_ble_eq_true rfl) (Nat.le_of_ble_eq_true rfl) (c_Mo_nextByte hnx s) (fun y1 s2 hy1 hs => ?_)
  refine grd_e hs (fun hg3 hs => ?_)
  refine x_i2l dX12_isLetterNext_4 hg3 ?_
  refine x_ldc2 97 dX12_isLetterNext_5 (csX12_104 rfl) ?_
  refine x_ldc2 122 dX12_isLetterNext_8 (csX12_106 rfl) ?_
  refine x_S_I M_X12_in [vl y1, vl 97, vl 122] [] hs rfl dX12_isLetterNext_11 (lkX12_108 _ rfl) (Nat.le_of_ble_eq_true rfl) (Nat.le_of_ble_eq_true rfl) (Nat.le_of_ble_eq_true rfl) (Nat.le_of_ble_eq_true rfl) (c_Mo_in hnx y1 97 122 s2) (fun y4 hy4 hs => ?_)
  refine grd_e hs (fun hg5 hs => ?_)
  cases hs
  exact x_zreturn hg5 dX12_isLetterNext_14 rfl rfl (Nat.le_of_ble_eq_true rfl) (Nat.le_of_ble_eq_true rfl) ⟨rfl, rfl⟩
set_option maxRecDepth 100000 in
theorem q_Mo_reads_b76 {C : Cx} {nx : Nat} (hnx : 100 ≤ nx) {Qr : Option Value → Hp → Prop} {Qx : String → Hp → Prop}  (x1 : Int) (x2 : Int) (t0 : Int) (s : Sg) {o : ((Int × Sg) ⊕ (Int × Sg))} (hs : Mo_reads_b76 x1 x2 t0 s = some o) (hb : ∀ σ : Int × Sg, o = .inl σ → ww C M_X12_reads 1 0 0 nx (Qr) (Qx) nx 0 0 29 [(0, .ref 80), (1, vi x1), (2, vi x2), (3, vl σ.1)] [] (hp nx σ.2)) (he0 : ∀ ρ : Int × Sg, o = .inr ρ → ww C M_X12_reads 1 0 0 nx (Qr) (Qx) nx 0 0 90 [(0, .ref 80), (1, vi x1), (2, vi x2), (3, vl ρ.1)] [] (hp nx ρ.2)) : ww C M_X12_reads 1 0 0 nx (Qr) (Qx) nx 0 0 76 [(0, .ref 80), (1, vi x1), (2, vi x2)] [vl t0] (hp nx s) := by
  unfold Mo_reads_b76 at hs
  refine w_lstore_n (lv' := [(3, vl t0), (0, .ref 80), (1, vi x1), (2, vi x2)]) dX12_reads_76 rfl (Nat.le_of_ble_eq_true rfl) rfl ?_
  refine w_aload_n 1 dX12_reads_77 rfl rfl ?_
  refine w_dup dX12_reads_78 rfl ?_
  refine x_getI 12 9 dX12_reads_79 (fxX12_94 rfl) rfl rfl (lt_of hnx (Nat.le_of_ble_eq_true rfl)) ?_
  refine x_iconst dX12_reads_82 ?_
  refine x_iadd dX12_reads_83 ?_
  refine x_putI 12 9 dX12_reads_84 (poX12_94 rfl) rfl rfl (lt_of hnx (Nat.le_of_ble_eq_true rfl)) ?_
  refine nam_s hs (fun s9 hs => ?_)
  refine w_goto dX12_reads_87 rfl ?_
  refine w_lv (lv' := [(0, .ref 80), (1, vi x1), (2, vi x2), (3, vl t0)]) [1, 2, 3, 0] rfl ?_
  cases hs
  exact hb _ rfl
set_option maxRecDepth 100000 in
theorem q_Mo_reads_t29 {C : Cx} {nx : Nat} (hnx : 100 ≤ nx) {Qr : Option Value → Hp → Prop} {Qx : String → Hp → Prop}  (x1 : Int) (x2 : Int) (x3 : Int) (s : Sg) {o : ((Int × Sg) ⊕ (Int × Sg))} (hs : Mo_reads_t29 x1 x2 x3 s = some o) (hb : ∀ σ : Int × Sg, o = .inl σ → ww C M_X12_reads 1 0 0 nx (Qr) (Qx) nx 0 0 29 [(0, .ref 80), (1, vi x1), (2, vi x2), (3, vl σ.1)] [] (hp nx σ.2)) (he0 : ∀ ρ : Int × Sg, o = .inr ρ → ww C M_X12_reads 1 0 0 nx (Qr) (Qx) nx 0 0 90 [(0, .ref 80), (1, vi x1), (2, vi x2), (3, vl ρ.1)] [] (hp nx ρ.2)) : ww C M_X12_reads 1 0 0 nx (Qr) (Qx) nx 0 0 29 [(0, .ref 80), (1, vi x1), (2, vi x2), (3, vl x3)] [] (hp nx s) := by
  unfold Mo_reads_t29 at hs
  refine w_aload_n 0 dX12_reads_29 rfl rfl ?_
  refine w_aload_n 0 dX12_reads_30 rfl rfl ?_
  refine x_getI 12 9 dX12_reads_31 (fxX12_94 rfl) rfl rfl (lt_of hnx (Nat.le_of_ble_eq_true rfl)) ?_
  refine x_bipush dX12_reads_34 (by decide) ?_
  refine x_bipush dX12_reads_36 (by decide) ?_
  refine x_V_I M_X12_isAt [vi (gi s 80 9), vi 48, vi 57] [] hs rfl dX12_reads_38 (lkX12_120 _ rfl) (lt_of hnx (Nat.le_of_ble_eq_true rfl)) rfl rfl (Nat.le_of_ble_eq_true rfl) (Nat.le_of_ble_eq_true rfl) (Nat.le_of_ble_eq_true rfl) (Nat.le_of_ble_eq_true rfl) (c_Mo_isAt hnx (gi s 80 9) 48 57 s) (fun y5 hy5 hs => ?_)
  refine x_ifeq hs dX12_reads_41 rfl (fun hs => ?_) (fun hs => ?_)
  · cases hs
    exact he0 _ rfl
  · refine w_lload_n 3 dX12_reads_44 rfl rfl ?_
    refine x_ldc2 99999999 dX12_reads_45 (csX12_124 rfl) ?_
    refine grd_e hs (fun hg6 hs => ?_)
    refine x_lcmp dX12_reads_48 hg6.1 hg6.2 ?_
    refine x_ifle hs dX12_reads_49 rfl (fun hs => ?_) (fun hs => ?_)
    · refine x_ldc2 10 dX12_reads_56 (csX12_126 rfl) ?_
      refine w_lload_n 3 dX12_reads_59 rfl rfl ?_
      refine x_lmul dX12_reads_60 ?_
      refine w_aload_n 0 dX12_reads_61 rfl rfl ?_
      refine x_getR 12 7 (b := 86) dX12_reads_62 (fxX12_26 rfl) rfl rfl (lt_of hnx (Nat.le_of_ble_eq_true rfl)) rfl ?_
      refine w_aload_n 0 dX12_reads_65 rfl rfl ?_
      refine x_getI 12 9 dX12_reads_66 (fxX12_94 rfl) rfl rfl (lt_of hnx (Nat.le_of_ble_eq_true rfl)) ?_
      refine grd_e hs (fun hg7 hs => ?_)
      refine x_bald hg7 (Nat.le_of_ble_eq_true rfl) dX12_reads_69 rfl (lt_of hnx (Nat.le_of_ble_eq_true rfl)) ?_
      refine grd_e hs (fun hg8 hs => ?_)
      refine x_i2l dX12_reads_70 hg8 ?_
      refine x_ladd dX12_reads_71 ?_
      refine x_ldc2 48 dX12_reads_72 (csX12_112 rfl) ?_
      refine x_lsub dX12_reads_75 ?_
      refine w_lv (lv' := [(0, .ref 80), (1, vi x1), (2, vi x2)]) [0, 1, 2] rfl ?_
      exact q_Mo_reads_b76 hnx x1 x2 (((10 * x3) + (gi s 86 (gi s 80 9).toNat)) - 48) s hs hb he0
    · refine w_lload_n 3 dX12_reads_52 rfl rfl ?_
      refine w_goto dX12_reads_53 rfl ?_
      refine w_lv (lv' := [(0, .ref 80), (1, vi x1), (2, vi x2)]) [0, 1, 2] rfl ?_
      exact q_Mo_reads_b76 hnx x1 x2 x3 s hs hb he0
set_option maxRecDepth 100000 in
theorem q_Mo_reads_l29 {C : Cx} {nx : Nat} (hnx : 100 ≤ nx) (x1 : Int) (x2 : Int) (x3 : Int) (s : Sg) {o : Int × Sg} (hs : Mo_reads_l29 x1 x2 x3 s = some o) : ww C M_X12_reads 1 0 0 nx (QI nx o.2 o.1) (XF) nx 0 0 29 [(0, .ref 80), (1, vi x1), (2, vi x2), (3, vl x3)] [] (hp nx s) := by
  unfold Mo_reads_l29 at hs
  refine bnd_e hs (fun ρ hw hs => ?_)
  obtain ⟨x3_10, s_11⟩ := ρ
  have hE : ww C M_X12_reads 1 0 0 nx (QI nx o.2 o.1) (XF) nx 0 0 90 [(0, .ref 80), (1, vi x1), (2, vi x2), (3, vl x3_10)] [] (hp nx s_11) := by
    refine w_lload_n 3 dX12_reads_90 rfl rfl ?_
    refine w_iload_n 1 dX12_reads_91 rfl rfl ?_
    refine grd_e hs (fun hg12 hs => ?_)
    refine x_i2l dX12_reads_92 hg12 ?_
    refine w_iload_n 2 dX12_reads_93 rfl rfl ?_
    refine grd_e hs (fun hg13 hs => ?_)
    refine x_i2l dX12_reads_94 hg13 ?_
    refine x_S_I M_X12_in [vl x3_10, vl x1, vl x2] [] hs rfl dX12_reads_95 (lkX12_108 _ rfl) (Nat.le_of_ble_eq_true rfl) (Nat.le_of_ble_eq_true rfl) (Nat.le_of_ble_eq_true rfl) (Nat.le_of_ble_eq_true rfl) (c_Mo_in hnx x3_10 x1 x2 s_11) (fun y14 hy14 hs => ?_)
    refine x_ifne hs dX12_reads_98 rfl (fun hs => ?_) (fun hs => ?_)
    · refine w_aload_n 0 dX12_reads_111 rfl rfl ?_
      refine w_lload_n 3 dX12_reads_112 rfl rfl ?_
      refine x_l2i dX12_reads_113 ?_
      refine x_putI 12 11 dX12_reads_114 (poX12_128 rfl) rfl rfl (lt_of hnx (Nat.le_of_ble_eq_true rfl)) ?_
      refine nam_s hs (fun s15 hs => ?_)
      refine x_iconst dX12_reads_117 ?_
      cases hs
      exact x_zreturn (Or.inr rfl) dX12_reads_118 rfl rfl (Nat.le_of_ble_eq_true rfl) (Nat.le_of_ble_eq_true rfl) ⟨rfl, rfl⟩
    · refine w_aload_n 0 dX12_reads_101 rfl rfl ?_
      refine x_iconst dX12_reads_102 ?_
      refine w_aload_n 0 dX12_reads_103 rfl rfl ?_
      refine x_getI 12 10 dX12_reads_104 (fxX12_97 rfl) rfl rfl (lt_of hnx (Nat.le_of_ble_eq_true rfl)) ?_
      refine x_V_B M_X12_fails [vi 2, vi (gi s_11 80 10)] [] hs rfl dX12_reads_107 (lkX12_116 _ rfl) (lt_of hnx (Nat.le_of_ble_eq_true rfl)) rfl rfl (Nat.le_of_ble_eq_true rfl) (Nat.le_of_ble_eq_true rfl) (Nat.le_of_ble_eq_true rfl) (Nat.le_of_ble_eq_true rfl) (c_Mo_fails hnx 2 (gi s_11 80 10) s_11) (fun y16 s17 hy16 hs => ?_)
      refine grd_e hs (fun hg18 hs => ?_)
      cases hs
      exact x_zreturn hg18 dX12_reads_110 rfl rfl (Nat.le_of_ble_eq_true rfl) (Nat.le_of_ble_eq_true rfl) ⟨rfl, rfl⟩
  refine whl_w (P := fun σ => ww C M_X12_reads 1 0 0 nx (QI nx o.2 o.1) (XF) nx 0 0 29 [(0, .ref 80), (1, vi x1), (2, vi x2), (3, vl σ.1)] [] (hp nx σ.2)) (E := fun ρ => ρ = (x3_10, s_11)) hw rfl ?_
  intro σ o' hs' hb' he'
  exact q_Mo_reads_t29 hnx x1 x2 σ.1 σ.2 hs' hb' (fun ρ e => by cases he' _ e; exact hE)
set_option maxRecDepth 100000 in
theorem c_Mo_reads {C : Cx} {nx : Nat} (hnx : 100 ≤ nx) (x1 : Int) (x2 : Int) (s : Sg) : ∀ o, Mo_reads x1 x2 s = some o → mm C M_X12_reads 1 0 0 nx nx [.ref 80, vi x1, vi x2] (hp nx s) (QI nx o.2 o.1) (XF) := by
  intro o hs
  unfold Mo_reads at hs
  refine mm_of rfl rfl (Nat.le_of_ble_eq_true rfl) ?_
  show ww C M_X12_reads 1 0 0 nx (QI nx o.2 o.1) (XF) nx 0 0 0 [(0, .ref 80), (1, vi x1), (2, vi x2)] [] (hp nx s)
  refine w_aload_n 0 dX12_reads_0 rfl rfl ?_
  refine x_V_B M_X12_nextByte [] [] hs rfl dX12_reads_1 (lkX12_100 _ rfl) (lt_of hnx (Nat.le_of_ble_eq_true rfl)) rfl rfl (Nat.le_of_ble_eq_true rfl) (Nat.le_of_ble_eq_true rfl) (Nat.le_of_ble_eq_true rfl) (Nat.le_of_ble_eq_true rfl) (c_Mo_nextByte hnx s) (fun y1 s2 hy1 hs => ?_)
  refine grd_e hs (fun hg3 hs => ?_)
  refine x_i2l dX12_reads_4 hg3 ?_
  refine x_ldc2 48 dX12_reads_5 (csX12_112 rfl) ?_
  refine x_ldc2 57 dX12_reads_8 (csX12_114 rfl) ?_
  refine x_S_I M_X12_in [vl y1, vl 48, vl 57] [] hs rfl dX12_reads_11 (lkX12_108 _ rfl) (Nat.le_of_ble_eq_true rfl) (Nat.le_of_ble_eq_true rfl) (Nat.le_of_ble_eq_true rfl) (Nat.le_of_ble_eq_true rfl) (c_Mo_in hnx y1 48 57 s2) (fun y4 hy4 hs => ?_)
  refine x_ifne hs dX12_reads_14 rfl (fun hs => ?_) (fun hs => ?_)
  · refine x_lconst (x := 0) dX12_reads_27 (by decide) ?_
    refine w_lstore_n (lv' := [(3, vl 0), (0, .ref 80), (1, vi x1), (2, vi x2)]) dX12_reads_28 rfl (Nat.le_of_ble_eq_true rfl) rfl ?_
    refine w_lv (lv' := [(0, .ref 80), (1, vi x1), (2, vi x2), (3, vl 0)]) [1, 2, 3, 0] rfl ?_
    exact q_Mo_reads_l29 hnx x1 x2 0 s2 hs
  · refine w_aload_n 0 dX12_reads_17 rfl rfl ?_
    refine x_iconst dX12_reads_18 ?_
    refine w_aload_n 0 dX12_reads_19 rfl rfl ?_
    refine x_getI 12 10 dX12_reads_20 (fxX12_97 rfl) rfl rfl (lt_of hnx (Nat.le_of_ble_eq_true rfl)) ?_
    refine x_V_B M_X12_fails [vi 1, vi (gi s2 80 10)] [] hs rfl dX12_reads_23 (lkX12_116 _ rfl) (lt_of hnx (Nat.le_of_ble_eq_true rfl)) rfl rfl (Nat.le_of_ble_eq_true rfl) (Nat.le_of_ble_eq_true rfl) (Nat.le_of_ble_eq_true rfl) (Nat.le_of_ble_eq_true rfl) (c_Mo_fails hnx 1 (gi s2 80 10) s2) (fun y19 s20 hy19 hs => ?_)
    refine grd_e hs (fun hg21 hs => ?_)
    cases hs
    exact x_zreturn hg21 dX12_reads_26 rfl rfl (Nat.le_of_ble_eq_true rfl) (Nat.le_of_ble_eq_true rfl) ⟨rfl, rfl⟩
set_option maxRecDepth 100000 in
theorem q_Mo_wordEnd_t5 {C : Cx} {nx : Nat} (hnx : 100 ≤ nx) {Qr : Option Value → Hp → Prop} {Qx : String → Hp → Prop}  (x1 : Int) (s : Sg) {o : ((Int) ⊕ (Int))} (hs : Mo_wordEnd_t5 x1 s = some o) (hb : ∀ σ : Int, o = .inl σ → ww C M_X12_wordEnd 1 0 0 nx (Qr) (Qx) nx 0 0 5 [(0, .ref 80), (1, vi σ)] [] (hp nx s)) (he0 : ∀ ρ : Int, o = .inr ρ → ww C M_X12_wordEnd 1 0 0 nx (Qr) (Qx) nx 0 0 23 [(1, vi ρ)] [] (hp nx s)) : ww C M_X12_wordEnd 1 0 0 nx (Qr) (Qx) nx 0 0 5 [(0, .ref 80), (1, vi x1)] [] (hp nx s) := by
  unfold Mo_wordEnd_t5 at hs
  refine w_aload_n 0 dX12_wordEnd_5 rfl rfl ?_
  refine w_iload_n 1 dX12_wordEnd_6 rfl rfl ?_
  refine x_bipush dX12_wordEnd_7 (by decide) ?_
  refine x_bipush dX12_wordEnd_9 (by decide) ?_
  refine x_V_I M_X12_isAt [vi x1, vi 97, vi 122] [] hs rfl dX12_wordEnd_11 (lkX12_120 _ rfl) (lt_of hnx (Nat.le_of_ble_eq_true rfl)) rfl rfl (Nat.le_of_ble_eq_true rfl) (Nat.le_of_ble_eq_true rfl) (Nat.le_of_ble_eq_true rfl) (Nat.le_of_ble_eq_true rfl) (c_Mo_isAt hnx x1 97 122 s) (fun y2 hy2 hs => ?_)
  refine x_ifeq hs dX12_wordEnd_14 rfl (fun hs => ?_) (fun hs => ?_)
  · refine w_lv (lv' := [(1, vi x1)]) [1] rfl ?_
    cases hs
    exact he0 _ rfl
  · refine x_iinc (lv' := [(1, vi (x1 + 1)), (0, .ref 80)]) 1 dX12_wordEnd_17 rfl (Nat.le_of_ble_eq_true rfl) rfl ?_
    refine w_goto dX12_wordEnd_20 rfl ?_
    refine w_lv (lv' := [(0, .ref 80), (1, vi (x1 + 1))]) [1, 0] rfl ?_
    cases hs
    exact hb _ rfl
set_option maxRecDepth 100000 in
theorem q_Mo_wordEnd_l5 {C : Cx} {nx : Nat} (hnx : 100 ≤ nx) (x1 : Int) (s : Sg) {o : Int} (hs : Mo_wordEnd_l5 x1 s = some o) : ww C M_X12_wordEnd 1 0 0 nx (QI nx s o) (XF) nx 0 0 5 [(0, .ref 80), (1, vi x1)] [] (hp nx s) := by
  unfold Mo_wordEnd_l5 at hs
  refine bnd_e hs (fun x1_3 hw hs => ?_)
  have hE : ww C M_X12_wordEnd 1 0 0 nx (QI nx s o) (XF) nx 0 0 23 [(1, vi x1_3)] [] (hp nx s) := by
    refine w_iload_n 0 dX12_wordEnd_23 rfl rfl ?_
    cases hs
    exact x_ireturn dX12_wordEnd_24 rfl rfl (Nat.le_of_ble_eq_true rfl) (Nat.le_of_ble_eq_true rfl) ⟨rfl, rfl⟩
  refine whl_w (P := fun σ => ww C M_X12_wordEnd 1 0 0 nx (QI nx s o) (XF) nx 0 0 5 [(0, .ref 80), (1, vi σ)] [] (hp nx s)) (E := fun ρ => ρ = x1_3) hw rfl ?_
  intro σ o' hs' hb' he'
  exact q_Mo_wordEnd_t5 hnx σ s hs' hb' (fun ρ e => by cases he' _ e; exact hE)
set_option maxRecDepth 100000 in
theorem c_Mo_wordEnd {C : Cx} {nx : Nat} (hnx : 100 ≤ nx)  (s : Sg) : ∀ o, Mo_wordEnd  s = some o → mm C M_X12_wordEnd 1 0 0 nx nx [.ref 80] (hp nx s) (QI nx s o) (XF) := by
  intro o hs
  unfold Mo_wordEnd at hs
  refine mm_of rfl rfl (Nat.le_of_ble_eq_true rfl) ?_
  show ww C M_X12_wordEnd 1 0 0 nx (QI nx s o) (XF) nx 0 0 0 [(0, .ref 80)] [] (hp nx s)
  refine w_aload_n 0 dX12_wordEnd_0 rfl rfl ?_
  refine x_getI 12 10 dX12_wordEnd_1 (fxX12_97 rfl) rfl rfl (lt_of hnx (Nat.le_of_ble_eq_true rfl)) ?_
  refine x_istore_n (fun x1_1 => [(1, vi x1_1), (0, .ref 80)]) hs dX12_wordEnd_4 rfl (Nat.le_of_ble_eq_true rfl) (fun _ => rfl) (fun x1_1 hs => ?_)
  refine w_lv (lv' := [(0, .ref 80), (1, vi x1_1)]) [1, 0] rfl ?_
  exact q_Mo_wordEnd_l5 hnx x1_1 s hs
set_option maxRecDepth 100000 in
theorem q_Mo_takes_t27 {C : Cx} {nx : Nat} (hnx : 100 ≤ nx) {Qr : Option Value → Hp → Prop} {Qx : String → Hp → Prop}  (r1 : Nat) (h_r1 : isStr r1) (x2 : Int) (s : Sg) {o : ((Int) ⊕ ((Unit) ⊕ (Unit)))} (hs : Mo_takes_t27 r1 x2 s = some o) (hb : ∀ σ : Int, o = .inl σ → ww C M_X12_takes 9 0 0 nx (Qr) (Qx) nx 0 0 27 [(0, .ref 80), (1, .ref (2000 + r1)), (2, vi σ)] [] (hp nx s)) (he0 : ∀ ρ : Unit, o = .inr (.inl ρ) → ww C M_X12_takes 9 0 0 nx (Qr) (Qx) nx 0 0 54 [] [] (hp nx s)) (he1 : ∀ ρ : Unit, o = .inr (.inr ρ) → ww C M_X12_takes 9 0 0 nx (Qr) (Qx) nx 0 0 62 [(0, .ref 80), (1, .ref (2000 + r1))] [] (hp nx s)) : ww C M_X12_takes 9 0 0 nx (Qr) (Qx) nx 0 0 27 [(0, .ref 80), (1, .ref (2000 + r1)), (2, vi x2)] [] (hp nx s) := by
  unfold Mo_takes_t27 at hs
  refine w_iload_n 2 dX12_takes_27 rfl rfl ?_
  refine w_aload_n 1 dX12_takes_28 rfl rfl ?_
  refine x_slen dX12_takes_29 (lkstX12_138 _ rfl) h_r1 (Nat.le_of_ble_eq_true rfl) (Nat.le_of_ble_eq_true rfl) (Nat.le_of_ble_eq_true rfl) (Nat.le_of_ble_eq_true rfl) ?_
  refine x_icmpge hs dX12_takes_32 rfl (fun hs => ?_) (fun hs => ?_)
  · refine w_lv (lv' := [(0, .ref 80), (1, .ref (2000 + r1))]) [0, 1] rfl ?_
    cases hs
    exact he1 _ rfl
  · refine w_aload_n 0 dX12_takes_35 rfl rfl ?_
    refine x_getR 12 7 (b := 86) dX12_takes_36 (fxX12_26 rfl) rfl rfl (lt_of hnx (Nat.le_of_ble_eq_true rfl)) rfl ?_
    refine w_aload_n 0 dX12_takes_39 rfl rfl ?_
    refine x_getI 12 10 dX12_takes_40 (fxX12_97 rfl) rfl rfl (lt_of hnx (Nat.le_of_ble_eq_true rfl)) ?_
    refine w_iload_n 2 dX12_takes_43 rfl rfl ?_
    refine x_iadd dX12_takes_44 ?_
    refine grd_e hs (fun hg4 hs => ?_)
    refine x_bald hg4 (Nat.le_of_ble_eq_true rfl) dX12_takes_45 rfl (lt_of hnx (Nat.le_of_ble_eq_true rfl)) ?_
    refine w_aload_n 1 dX12_takes_46 rfl rfl ?_
    refine w_iload_n 2 dX12_takes_47 rfl rfl ?_
    refine grd_e hs (fun hg5 hs => ?_)
    refine x_schr hg5 dX12_takes_48 (lkstX12_142 _ rfl) h_r1 (Nat.le_of_ble_eq_true rfl) (Nat.le_of_ble_eq_true rfl) (Nat.le_of_ble_eq_true rfl) (Nat.le_of_ble_eq_true rfl) ?_
    refine x_icmpeq hs dX12_takes_51 rfl (fun hs => ?_) (fun hs => ?_)
    · refine x_iinc (lv' := [(2, vi (x2 + 1)), (0, .ref 80), (1, .ref (2000 + r1))]) 2 dX12_takes_56 rfl (Nat.le_of_ble_eq_true rfl) rfl ?_
      refine w_goto dX12_takes_59 rfl ?_
      refine w_lv (lv' := [(0, .ref 80), (1, .ref (2000 + r1)), (2, vi (x2 + 1))]) [1, 2, 0] rfl ?_
      cases hs
      exact hb _ rfl
    · refine w_lv (lv' := []) [] rfl ?_
      cases hs
      exact he0 _ rfl
set_option maxRecDepth 100000 in
theorem q_Mo_takes_l27 {C : Cx} {nx : Nat} (hnx : 100 ≤ nx) (r1 : Nat) (h_r1 : isStr r1) (x2 : Int) (s : Sg) {o : Int × Sg} (hs : Mo_takes_l27 r1 x2 s = some o) : ww C M_X12_takes 9 0 0 nx (QI nx o.2 o.1) (XF) nx 0 0 27 [(0, .ref 80), (1, .ref (2000 + r1)), (2, vi x2)] [] (hp nx s) := by
  unfold Mo_takes_l27 at hs
  refine bnd_e hs (fun ρ hw hs => ?_)
  rcases ρ with ⟨⟩ | ⟨⟩
  · have hE : ww C M_X12_takes 9 0 0 nx (QI nx o.2 o.1) (XF) nx 0 0 54 [] [] (hp nx s) := by
      refine x_iconst dX12_takes_54 ?_
      cases hs
      exact x_zreturn (Or.inl rfl) dX12_takes_55 rfl rfl (Nat.le_of_ble_eq_true rfl) (Nat.le_of_ble_eq_true rfl) ⟨rfl, rfl⟩
    refine whl_w (P := fun σ => ww C M_X12_takes 9 0 0 nx (QI nx o.2 o.1) (XF) nx 0 0 27 [(0, .ref 80), (1, .ref (2000 + r1)), (2, vi σ)] [] (hp nx s)) (E := fun ρ => ρ = (.inl ())) hw rfl ?_
    intro σ o' hs' hb' he'
    exact q_Mo_takes_t27 hnx r1 h_r1 σ s hs' hb' (fun ρ e => by cases he' _ e; exact hE) (fun ρ e => by cases he' _ e)
  · have hE : ww C M_X12_takes 9 0 0 nx (QI nx o.2 o.1) (XF) nx 0 0 62 [(0, .ref 80), (1, .ref (2000 + r1))] [] (hp nx s) := by
      refine w_aload_n 0 dX12_takes_62 rfl rfl ?_
      refine w_aload_n 0 dX12_takes_63 rfl rfl ?_
      refine x_getI 12 10 dX12_takes_64 (fxX12_97 rfl) rfl rfl (lt_of hnx (Nat.le_of_ble_eq_true rfl)) ?_
      refine w_aload_n 1 dX12_takes_67 rfl rfl ?_
      refine x_slen dX12_takes_68 (lkstX12_138 _ rfl) h_r1 (Nat.le_of_ble_eq_true rfl) (Nat.le_of_ble_eq_true rfl) (Nat.le_of_ble_eq_true rfl) (Nat.le_of_ble_eq_true rfl) ?_
      refine x_iadd dX12_takes_71 ?_
      refine x_putI 12 9 dX12_takes_72 (poX12_94 rfl) rfl rfl (lt_of hnx (Nat.le_of_ble_eq_true rfl)) ?_
      refine nam_s hs (fun s6 hs => ?_)
      refine x_iconst dX12_takes_75 ?_
      cases hs
      exact x_zreturn (Or.inr rfl) dX12_takes_76 rfl rfl (Nat.le_of_ble_eq_true rfl) (Nat.le_of_ble_eq_true rfl) ⟨rfl, rfl⟩
    refine whl_w (P := fun σ => ww C M_X12_takes 9 0 0 nx (QI nx o.2 o.1) (XF) nx 0 0 27 [(0, .ref 80), (1, .ref (2000 + r1)), (2, vi σ)] [] (hp nx s)) (E := fun ρ => ρ = (.inr ())) hw rfl ?_
    intro σ o' hs' hb' he'
    exact q_Mo_takes_t27 hnx r1 h_r1 σ s hs' hb' (fun ρ e => by cases he' _ e) (fun ρ e => by cases he' _ e; exact hE)
set_option maxRecDepth 100000 in
theorem c_Mo_takes {C : Cx} {nx : Nat} (hnx : 100 ≤ nx) (r1 : Nat) (h_r1 : isStr r1) (s : Sg) : ∀ o, Mo_takes r1 s = some o → mm C M_X12_takes 9 0 0 nx nx [.ref 80, .ref (2000 + r1)] (hp nx s) (QI nx o.2 o.1) (XF) := by
  intro o hs
  unfold Mo_takes at hs
  refine mm_of rfl rfl (Nat.le_of_ble_eq_true rfl) ?_
  show ww C M_X12_takes 9 0 0 nx (QI nx o.2 o.1) (XF) nx 0 0 0 [(0, .ref 80), (1, .ref (2000 + r1))] [] (hp nx s)
  refine w_aload_n 0 dX12_takes_0 rfl rfl ?_
  refine x_V_B M_X12_isLetterNext [] [] hs rfl dX12_takes_1 (lkX12_131 _ rfl) (lt_of hnx (Nat.le_of_ble_eq_true rfl)) rfl rfl (Nat.le_of_ble_eq_true rfl) (Nat.le_of_ble_eq_true rfl) (Nat.le_of_ble_eq_true rfl) (Nat.le_of_ble_eq_true rfl) (c_Mo_isLetterNext hnx s) (fun y1 s2 hy1 hs => ?_)
  refine x_ifeq hs dX12_takes_4 rfl (fun hs => ?_) (fun hs => ?_)
  · refine x_iconst dX12_takes_23 ?_
    cases hs
    exact x_zreturn (Or.inl rfl) dX12_takes_24 rfl rfl (Nat.le_of_ble_eq_true rfl) (Nat.le_of_ble_eq_true rfl) ⟨rfl, rfl⟩
  · refine w_aload_n 0 dX12_takes_7 rfl rfl ?_
    refine x_V_I M_X12_wordEnd [] [] hs rfl dX12_takes_8 (lkX12_135 _ rfl) (lt_of hnx (Nat.le_of_ble_eq_true rfl)) rfl rfl (Nat.le_of_ble_eq_true rfl) (Nat.le_of_ble_eq_true rfl) (Nat.le_of_ble_eq_true rfl) (Nat.le_of_ble_eq_true rfl) (c_Mo_wordEnd hnx s2) (fun y3 hy3 hs => ?_)
    refine w_aload_n 0 dX12_takes_11 rfl rfl ?_
    refine x_getI 12 10 dX12_takes_12 (fxX12_97 rfl) rfl rfl (lt_of hnx (Nat.le_of_ble_eq_true rfl)) ?_
    refine x_isub dX12_takes_15 ?_
    refine w_aload_n 1 dX12_takes_16 rfl rfl ?_
    refine x_slen dX12_takes_17 (lkstX12_138 _ rfl) h_r1 (Nat.le_of_ble_eq_true rfl) (Nat.le_of_ble_eq_true rfl) (Nat.le_of_ble_eq_true rfl) (Nat.le_of_ble_eq_true rfl) ?_
    refine x_icmpeq hs dX12_takes_20 rfl (fun hs => ?_) (fun hs => ?_)
    · refine x_iconst dX12_takes_25 ?_
      refine w_istore_n (lv' := [(2, vi 0), (0, .ref 80), (1, .ref (2000 + r1))]) dX12_takes_26 rfl (Nat.le_of_ble_eq_true rfl) rfl ?_
      refine w_lv (lv' := [(0, .ref 80), (1, .ref (2000 + r1)), (2, vi 0)]) [1, 2, 0] rfl ?_
      exact q_Mo_takes_l27 hnx r1 h_r1 0 s2 hs
    · refine x_iconst dX12_takes_23 ?_
      cases hs
      exact x_zreturn (Or.inl rfl) dX12_takes_24 rfl rfl (Nat.le_of_ble_eq_true rfl) (Nat.le_of_ble_eq_true rfl) ⟨rfl, rfl⟩
set_option maxRecDepth 100000 in
theorem c_Mo_readBoard {C : Cx} {nx : Nat} (hnx : 100 ≤ nx)  (s : Sg) : ∀ o, Mo_readBoard  s = some o → mm C M_X12_readBoard 10 0 0 nx nx [.ref 80] (hp nx s) (QI nx o.2 o.1) (XF) := by
  intro o hs
  unfold Mo_readBoard at hs
  refine mm_of rfl rfl (Nat.le_of_ble_eq_true rfl) ?_
  show ww C M_X12_readBoard 10 0 0 nx (QI nx o.2 o.1) (XF) nx 0 0 0 [(0, .ref 80)] [] (hp nx s)
  refine w_aload_n 0 dX12_readBoard_0 rfl rfl ?_
  refine x_iconst dX12_readBoard_1 ?_
  refine x_bipush dX12_readBoard_2 (by decide) ?_
  refine x_V_B M_X12_reads [vi 2, vi 9] [] hs rfl dX12_readBoard_4 (lkX12_146 _ rfl) (lt_of hnx (Nat.le_of_ble_eq_true rfl)) rfl rfl (Nat.le_of_ble_eq_true rfl) (Nat.le_of_ble_eq_true rfl) (Nat.le_of_ble_eq_true rfl) (Nat.le_of_ble_eq_true rfl) (c_Mo_reads hnx 2 9 s) (fun y1 s2 hy1 hs => ?_)
  refine x_ifne hs dX12_readBoard_7 rfl (fun hs => ?_) (fun hs => ?_)
  · refine w_aload_n 0 dX12_readBoard_12 rfl rfl ?_
    refine w_aload_n 0 dX12_readBoard_13 rfl rfl ?_
    refine x_getI 12 11 dX12_readBoard_14 (fxX12_128 rfl) rfl rfl (lt_of hnx (Nat.le_of_ble_eq_true rfl)) ?_
    refine x_V_V M_X12_begins [vi (gi s2 80 11)] [] hs rfl dX12_readBoard_17 (lkX12_73 _ rfl) (lt_of hnx (Nat.le_of_ble_eq_true rfl)) rfl rfl (Nat.le_of_ble_eq_true rfl) (Nat.le_of_ble_eq_true rfl) (Nat.le_of_ble_eq_true rfl) (Nat.le_of_ble_eq_true rfl) (c_Mo_begins hnx (gi s2 80 11) s2) (fun s4 hs4 hs => ?_)
    refine w_aload_n 0 dX12_readBoard_20 rfl rfl ?_
    refine x_V_B M_X12_isLetterNext [] [] hs rfl dX12_readBoard_21 (lkX12_131 _ rfl) (lt_of hnx (Nat.le_of_ble_eq_true rfl)) rfl rfl (Nat.le_of_ble_eq_true rfl) (Nat.le_of_ble_eq_true rfl) (Nat.le_of_ble_eq_true rfl) (Nat.le_of_ble_eq_true rfl) (c_Mo_isLetterNext hnx s4) (fun y5 s6 hy5 hs => ?_)
    refine x_ifne hs dX12_readBoard_24 rfl (fun hs => ?_) (fun hs => ?_)
    · refine w_aload_n 0 dX12_readBoard_29 rfl rfl ?_
      refine x_ldcS dX12_readBoard_30 (srX12_149 (M := M_X12_readBoard) rfl) (by decide) ?_
      refine x_V_B M_X12_takes [.ref 2011] [] hs rfl dX12_readBoard_32 (lkX12_151 _ rfl) (lt_of hnx (Nat.le_of_ble_eq_true rfl)) rfl rfl (Nat.le_of_ble_eq_true rfl) (Nat.le_of_ble_eq_true rfl) (Nat.le_of_ble_eq_true rfl) (Nat.le_of_ble_eq_true rfl) (c_Mo_takes hnx 11 (Or.inr (by decide)) s6) (fun y7 s8 hy7 hs => ?_)
      refine x_ifne hs dX12_readBoard_35 rfl (fun hs => ?_) (fun hs => ?_)
      · refine w_aload_n 0 dX12_readBoard_48 rfl rfl ?_
        refine x_getR 12 1 (b := 81) dX12_readBoard_49 (fxX12_9 rfl) rfl rfl (lt_of hnx (Nat.le_of_ble_eq_true rfl)) rfl ?_
        refine x_iconst dX12_readBoard_52 ?_
        refine x_iconst dX12_readBoard_53 ?_
        refine grd_e hs (fun hg9 hs => ?_)
        refine x_iast ⟨by decide, by decide⟩ (Nat.le_of_ble_eq_true rfl) dX12_readBoard_54 rfl (lt_of hnx (Nat.le_of_ble_eq_true rfl)) ?_
        refine nam_s hs (fun s10 hs => ?_)
        refine x_iconst dX12_readBoard_55 ?_
        cases hs
        exact x_zreturn (Or.inr rfl) dX12_readBoard_56 rfl rfl (Nat.le_of_ble_eq_true rfl) (Nat.le_of_ble_eq_true rfl) ⟨rfl, rfl⟩
      · refine w_aload_n 0 dX12_readBoard_38 rfl rfl ?_
        refine x_iconst dX12_readBoard_39 ?_
        refine w_aload_n 0 dX12_readBoard_40 rfl rfl ?_
        refine x_getI 12 10 dX12_readBoard_41 (fxX12_97 rfl) rfl rfl (lt_of hnx (Nat.le_of_ble_eq_true rfl)) ?_
        refine x_V_B M_X12_fails [vi 1, vi (gi s8 80 10)] [] hs rfl dX12_readBoard_44 (lkX12_116 _ rfl) (lt_of hnx (Nat.le_of_ble_eq_true rfl)) rfl rfl (Nat.le_of_ble_eq_true rfl) (Nat.le_of_ble_eq_true rfl) (Nat.le_of_ble_eq_true rfl) (Nat.le_of_ble_eq_true rfl) (c_Mo_fails hnx 1 (gi s8 80 10) s8) (fun y11 s12 hy11 hs => ?_)
        refine grd_e hs (fun hg13 hs => ?_)
        cases hs
        exact x_zreturn hg13 dX12_readBoard_47 rfl rfl (Nat.le_of_ble_eq_true rfl) (Nat.le_of_ble_eq_true rfl) ⟨rfl, rfl⟩
    · refine x_iconst dX12_readBoard_27 ?_
      cases hs
      exact x_zreturn (Or.inr rfl) dX12_readBoard_28 rfl rfl (Nat.le_of_ble_eq_true rfl) (Nat.le_of_ble_eq_true rfl) ⟨rfl, rfl⟩
  · refine x_iconst dX12_readBoard_10 ?_
    cases hs
    exact x_zreturn (Or.inl rfl) dX12_readBoard_11 rfl rfl (Nat.le_of_ble_eq_true rfl) (Nat.le_of_ble_eq_true rfl) ⟨rfl, rfl⟩
set_option maxRecDepth 100000 in
theorem c_Mo_cells {C : Cx} {nx : Nat} (hnx : 100 ≤ nx)  (s : Sg) : ∀ o, Mo_cells  s = some o → mm C M_X12_cells 0 0 0 nx nx [.ref 80] (hp nx s) (QI nx s o) (XF) := by
  intro o hs
  unfold Mo_cells at hs
  refine mm_of rfl rfl (Nat.le_of_ble_eq_true rfl) ?_
  show ww C M_X12_cells 0 0 0 nx (QI nx s o) (XF) nx 0 0 0 [(0, .ref 80)] [] (hp nx s)
  refine w_aload_n 0 dX12_cells_0 rfl rfl ?_
  refine x_getR 12 1 (b := 81) dX12_cells_1 (fxX12_9 rfl) rfl rfl (lt_of hnx (Nat.le_of_ble_eq_true rfl)) rfl ?_
  refine x_iconst dX12_cells_4 ?_
  refine grd_e hs (fun hg1 hs => ?_)
  refine x_iald ⟨by decide, by decide⟩ (Nat.le_of_ble_eq_true rfl) dX12_cells_5 (Or.inl ⟨rfl, (lt_of hnx (Nat.le_of_ble_eq_true rfl))⟩) ?_
  refine w_aload_n 0 dX12_cells_6 rfl rfl ?_
  refine x_getR 12 1 (b := 81) dX12_cells_7 (fxX12_9 rfl) rfl rfl (lt_of hnx (Nat.le_of_ble_eq_true rfl)) rfl ?_
  refine x_iconst dX12_cells_10 ?_
  refine grd_e hs (fun hg2 hs => ?_)
  refine x_iald ⟨by decide, by decide⟩ (Nat.le_of_ble_eq_true rfl) dX12_cells_11 (Or.inl ⟨rfl, (lt_of hnx (Nat.le_of_ble_eq_true rfl))⟩) ?_
  refine x_imul dX12_cells_12 ?_
  cases hs
  exact x_ireturn dX12_cells_13 rfl rfl (Nat.le_of_ble_eq_true rfl) (Nat.le_of_ble_eq_true rfl) ⟨rfl, rfl⟩
set_option maxRecDepth 100000 in
theorem q_Mo_marksSelves_t2 {C : Cx} {nx : Nat} (hnx : 100 ≤ nx) {Qr : Option Value → Hp → Prop} {Qx : String → Hp → Prop}  (r1 : Nat) (h_r1 : isRowW nx r1) (x2 : Int) (s : Sg) {o : ((Int × Sg) ⊕ (Sg))} (hs : Mo_marksSelves_t2 r1 x2 s = some o) (hb : ∀ σ : Int × Sg, o = .inl σ → ww C M_X12_marksSelves 1 0 0 nx (Qr) (Qx) nx 0 0 2 [(0, .ref 80), (1, .ref r1), (2, vi σ.1)] [] (hp nx σ.2)) (he0 : ∀ ρ : Sg, o = .inr ρ → ww C M_X12_marksSelves 1 0 0 nx (Qr) (Qx) nx 0 0 20 [] [] (hp nx ρ)) : ww C M_X12_marksSelves 1 0 0 nx (Qr) (Qx) nx 0 0 2 [(0, .ref 80), (1, .ref r1), (2, vi x2)] [] (hp nx s) := by
  unfold Mo_marksSelves_t2 at hs
  refine w_iload_n 2 dX12_marksSelves_2 rfl rfl ?_
  refine w_aload_n 0 dX12_marksSelves_3 rfl rfl ?_
  refine x_V_I M_X12_cells [] [vi x2] hs rfl dX12_marksSelves_4 (lkX12_212 _ rfl) (lt_of hnx (Nat.le_of_ble_eq_true rfl)) rfl rfl (Nat.le_of_ble_eq_true rfl) (Nat.le_of_ble_eq_true rfl) (Nat.le_of_ble_eq_true rfl) (Nat.le_of_ble_eq_true rfl) (c_Mo_cells hnx s) (fun y1 hy1 hs => ?_)
  refine x_icmpge hs dX12_marksSelves_7 rfl (fun hs => ?_) (fun hs => ?_)
  · refine w_lv (lv' := []) [] rfl ?_
    cases hs
    exact he0 _ rfl
  · refine w_aload_n 1 dX12_marksSelves_10 rfl rfl ?_
    refine w_iload_n 2 dX12_marksSelves_11 rfl rfl ?_
    refine w_iload_n 2 dX12_marksSelves_12 rfl rfl ?_
    refine grd_e hs (fun hg2 hs => ?_)
    refine x_iast hg2 (alen_le _) dX12_marksSelves_13 h_r1.1 h_r1.2 ?_
    refine nam_s hs (fun s3 hs => ?_)
    refine x_iinc (lv' := [(2, vi (x2 + 1)), (0, .ref 80), (1, .ref r1)]) 2 dX12_marksSelves_14 rfl (Nat.le_of_ble_eq_true rfl) rfl ?_
    refine w_goto dX12_marksSelves_17 rfl ?_
    refine w_lv (lv' := [(0, .ref 80), (1, .ref r1), (2, vi (x2 + 1))]) [1, 2, 0] rfl ?_
    cases hs
    exact hb _ rfl
set_option maxRecDepth 100000 in
theorem q_Mo_marksSelves_l2 {C : Cx} {nx : Nat} (hnx : 100 ≤ nx) (r1 : Nat) (h_r1 : isRowW nx r1) (x2 : Int) (s : Sg) {o : Sg} (hs : Mo_marksSelves_l2 r1 x2 s = some o) : ww C M_X12_marksSelves 1 0 0 nx (QV nx o) (XF) nx 0 0 2 [(0, .ref 80), (1, .ref r1), (2, vi x2)] [] (hp nx s) := by
  unfold Mo_marksSelves_l2 at hs
  refine bnd_e hs (fun s_4 hw hs => ?_)
  have hE : ww C M_X12_marksSelves 1 0 0 nx (QV nx o) (XF) nx 0 0 20 [] [] (hp nx s_4) := by
    cases hs
    exact w_return rfl dX12_marksSelves_20 rfl (Nat.le_of_ble_eq_true rfl) (Nat.le_of_ble_eq_true rfl) ⟨rfl, rfl⟩
  refine whl_w (P := fun σ => ww C M_X12_marksSelves 1 0 0 nx (QV nx o) (XF) nx 0 0 2 [(0, .ref 80), (1, .ref r1), (2, vi σ.1)] [] (hp nx σ.2)) (E := fun ρ => ρ = s_4) hw rfl ?_
  intro σ o' hs' hb' he'
  exact q_Mo_marksSelves_t2 hnx r1 h_r1 σ.1 σ.2 hs' hb' (fun ρ e => by cases he' _ e; exact hE)
set_option maxRecDepth 100000 in
theorem c_Mo_marksSelves {C : Cx} {nx : Nat} (hnx : 100 ≤ nx) (r1 : Nat) (h_r1 : isRowW nx r1) (s : Sg) : ∀ o, Mo_marksSelves r1 s = some o → mm C M_X12_marksSelves 1 0 0 nx nx [.ref 80, .ref r1] (hp nx s) (QV nx o) (XF) := by
  intro o hs
  unfold Mo_marksSelves at hs
  refine mm_of rfl rfl (Nat.le_of_ble_eq_true rfl) ?_
  show ww C M_X12_marksSelves 1 0 0 nx (QV nx o) (XF) nx 0 0 0 [(0, .ref 80), (1, .ref r1)] [] (hp nx s)
  refine x_iconst dX12_marksSelves_0 ?_
  refine w_istore_n (lv' := [(2, vi 0), (0, .ref 80), (1, .ref r1)]) dX12_marksSelves_1 rfl (Nat.le_of_ble_eq_true rfl) rfl ?_
  refine w_lv (lv' := [(0, .ref 80), (1, .ref r1), (2, vi 0)]) [1, 2, 0] rfl ?_
  exact q_Mo_marksSelves_l2 hnx r1 h_r1 0 s hs
set_option maxRecDepth 100000 in
theorem c_Mo_row {C : Cx} {nx : Nat} (hnx : 100 ≤ nx) (x1 : Int) (s : Sg) : ∀ o, Mo_row x1 s = some o → mm C M_X12_row 0 0 0 nx nx [.ref 80, vi x1] (hp nx s) (QI nx s o) (XF) := by
  intro o hs
  unfold Mo_row at hs
  refine mm_of rfl rfl (Nat.le_of_ble_eq_true rfl) ?_
  show ww C M_X12_row 0 0 0 nx (QI nx s o) (XF) nx 0 0 0 [(0, .ref 80), (1, vi x1)] [] (hp nx s)
  refine w_iload_n 1 dX12_row_0 rfl rfl ?_
  refine w_aload_n 0 dX12_row_1 rfl rfl ?_
  refine x_getR 12 1 (b := 81) dX12_row_2 (fxX12_9 rfl) rfl rfl (lt_of hnx (Nat.le_of_ble_eq_true rfl)) rfl ?_
  refine x_iconst dX12_row_5 ?_
  refine grd_e hs (fun hg1 hs => ?_)
  refine x_iald ⟨by decide, by decide⟩ (Nat.le_of_ble_eq_true rfl) dX12_row_6 (Or.inl ⟨rfl, (lt_of hnx (Nat.le_of_ble_eq_true rfl))⟩) ?_
  refine grd_e hs (fun hg2 hs => ?_)
  refine x_idiv dX12_row_7 hg2 ?_
  cases hs
  exact x_ireturn dX12_row_8 rfl rfl (Nat.le_of_ble_eq_true rfl) (Nat.le_of_ble_eq_true rfl) ⟨rfl, rfl⟩
set_option maxRecDepth 100000 in
theorem c_Mo_column {C : Cx} {nx : Nat} (hnx : 100 ≤ nx) (x1 : Int) (s : Sg) : ∀ o, Mo_column x1 s = some o → mm C M_X12_column 0 0 0 nx nx [.ref 80, vi x1] (hp nx s) (QI nx s o) (XF) := by
  intro o hs
  unfold Mo_column at hs
  refine mm_of rfl rfl (Nat.le_of_ble_eq_true rfl) ?_
  show ww C M_X12_column 0 0 0 nx (QI nx s o) (XF) nx 0 0 0 [(0, .ref 80), (1, vi x1)] [] (hp nx s)
  refine w_iload_n 1 dX12_column_0 rfl rfl ?_
  refine w_aload_n 0 dX12_column_1 rfl rfl ?_
  refine x_getR 12 1 (b := 81) dX12_column_2 (fxX12_9 rfl) rfl rfl (lt_of hnx (Nat.le_of_ble_eq_true rfl)) rfl ?_
  refine x_iconst dX12_column_5 ?_
  refine grd_e hs (fun hg1 hs => ?_)
  refine x_iald ⟨by decide, by decide⟩ (Nat.le_of_ble_eq_true rfl) dX12_column_6 (Or.inl ⟨rfl, (lt_of hnx (Nat.le_of_ble_eq_true rfl))⟩) ?_
  refine grd_e hs (fun hg2 hs => ?_)
  refine x_irem dX12_column_7 hg2 ?_
  cases hs
  exact x_ireturn dX12_column_8 rfl rfl (Nat.le_of_ble_eq_true rfl) (Nat.le_of_ble_eq_true rfl) ⟨rfl, rfl⟩
set_option maxRecDepth 100000 in
theorem q_Mo_round_b60 {C : Cx} {nx : Nat} (hnx : 100 ≤ nx) (x3 : Int) (t0 : Int) (t1 : Int) (s : Sg) {o : Int} (hs : Mo_round_b60 x3 t0 t1 s = some o) : ww C M_X12_round 1 0 0 nx (QI nx s o) (XF) nx 0 0 60 [(0, .ref 80), (3, vi x3)] [vi t1, vi t0] (hp nx s) := by
  unfold Mo_round_b60 at hs
  refine x_iadd dX12_round_60 ?_
  refine x_istore (fun x4_4 => [(4, vi x4_4), (0, .ref 80), (3, vi x3)]) hs dX12_round_61 (Nat.le_of_ble_eq_true rfl) (fun _ => rfl) (fun x4_4 hs => ?_)
  refine w_iload_n 2 dX12_round_63 rfl rfl ?_
  refine grd_e hs (fun hg5 hs => ?_)
  refine x_i2l dX12_round_64 hg5 ?_
  refine x_lconst (x := 0) dX12_round_65 (by decide) ?_
  refine w_aload_n 1 dX12_round_66 rfl rfl ?_
  refine x_getR 12 1 (b := 81) dX12_round_67 (fxX12_9 rfl) rfl rfl (lt_of hnx (Nat.le_of_ble_eq_true rfl)) rfl ?_
  refine x_iconst dX12_round_70 ?_
  refine grd_e hs (fun hg6 hs => ?_)
  refine x_iald ⟨by decide, by decide⟩ (Nat.le_of_ble_eq_true rfl) dX12_round_71 (Or.inl ⟨rfl, (lt_of hnx (Nat.le_of_ble_eq_true rfl))⟩) ?_
  refine x_iconst dX12_round_72 ?_
  refine x_isub dX12_round_73 ?_
  refine grd_e hs (fun hg7 hs => ?_)
  refine x_i2l dX12_round_74 hg7 ?_
  refine x_S_I M_X12_in [vl x3, vl 0, vl ((gi s 81 0) - 1)] [] hs rfl dX12_round_75 (lkX12_108 _ rfl) (Nat.le_of_ble_eq_true rfl) (Nat.le_of_ble_eq_true rfl) (Nat.le_of_ble_eq_true rfl) (Nat.le_of_ble_eq_true rfl) (c_Mo_in hnx x3 0 ((gi s 81 0) - 1) s) (fun y8 hy8 hs => ?_)
  refine x_ifeq hs dX12_round_78 rfl (fun hs => ?_) (fun hs => ?_)
  · refine x_iconst dX12_round_114 ?_
    cases hs
    exact x_ireturn dX12_round_115 rfl rfl (Nat.le_of_ble_eq_true rfl) (Nat.le_of_ble_eq_true rfl) ⟨rfl, rfl⟩
  · refine w_iload 0 dX12_round_81 rfl ?_
    refine grd_e hs (fun hg9 hs => ?_)
    refine x_i2l dX12_round_83 hg9 ?_
    refine x_lconst (x := 0) dX12_round_84 (by decide) ?_
    refine w_aload_n 1 dX12_round_85 rfl rfl ?_
    refine x_getR 12 1 (b := 81) dX12_round_86 (fxX12_9 rfl) rfl rfl (lt_of hnx (Nat.le_of_ble_eq_true rfl)) rfl ?_
    refine x_iconst dX12_round_89 ?_
    refine grd_e hs (fun hg10 hs => ?_)
    refine x_iald ⟨by decide, by decide⟩ (Nat.le_of_ble_eq_true rfl) dX12_round_90 (Or.inl ⟨rfl, (lt_of hnx (Nat.le_of_ble_eq_true rfl))⟩) ?_
    refine x_iconst dX12_round_91 ?_
    refine x_isub dX12_round_92 ?_
    refine grd_e hs (fun hg11 hs => ?_)
    refine x_i2l dX12_round_93 hg11 ?_
    refine x_S_I M_X12_in [vl x4_4, vl 0, vl ((gi s 81 0) - 1)] [] hs rfl dX12_round_94 (lkX12_108 _ rfl) (Nat.le_of_ble_eq_true rfl) (Nat.le_of_ble_eq_true rfl) (Nat.le_of_ble_eq_true rfl) (Nat.le_of_ble_eq_true rfl) (c_Mo_in hnx x4_4 0 ((gi s 81 0) - 1) s) (fun y12 hy12 hs => ?_)
    refine x_ifeq hs dX12_round_97 rfl (fun hs => ?_) (fun hs => ?_)
    · refine x_iconst dX12_round_114 ?_
      cases hs
      exact x_ireturn dX12_round_115 rfl rfl (Nat.le_of_ble_eq_true rfl) (Nat.le_of_ble_eq_true rfl) ⟨rfl, rfl⟩
    · refine w_aload_n 1 dX12_round_100 rfl rfl ?_
      refine x_getR 12 1 (b := 81) dX12_round_101 (fxX12_9 rfl) rfl rfl (lt_of hnx (Nat.le_of_ble_eq_true rfl)) rfl ?_
      refine x_iconst dX12_round_104 ?_
      refine grd_e hs (fun hg13 hs => ?_)
      refine x_iald ⟨by decide, by decide⟩ (Nat.le_of_ble_eq_true rfl) dX12_round_105 (Or.inl ⟨rfl, (lt_of hnx (Nat.le_of_ble_eq_true rfl))⟩) ?_
      refine w_iload_n 2 dX12_round_106 rfl rfl ?_
      refine x_imul dX12_round_107 ?_
      refine w_iload 0 dX12_round_108 rfl ?_
      refine x_iadd dX12_round_110 ?_
      refine w_goto dX12_round_111 rfl ?_
      cases hs
      exact x_ireturn dX12_round_115 rfl rfl (Nat.le_of_ble_eq_true rfl) (Nat.le_of_ble_eq_true rfl) ⟨rfl, rfl⟩
set_option maxRecDepth 100000 in
theorem q_Mo_round_b41 {C : Cx} {nx : Nat} (hnx : 100 ≤ nx) (x3 : Int) (t0 : Int) (s : Sg) {o : Int} (hs : Mo_round_b41 x3 t0 s = some o) : ww C M_X12_round 1 0 0 nx (QI nx s o) (XF) nx 0 0 41 [(0, .ref 80), (3, vi x3)] [vi t0] (hp nx s) := by
  unfold Mo_round_b41 at hs
  refine x_iconst dX12_round_41 ?_
  refine w_goto dX12_round_42 rfl ?_
  exact q_Mo_round_b60 hnx x3 t0 1 s hs
set_option maxRecDepth 100000 in
theorem q_Mo_round_b55 {C : Cx} {nx : Nat} (hnx : 100 ≤ nx) (x3 : Int) (t0 : Int) (s : Sg) {o : Int} (hs : Mo_round_b55 x3 t0 s = some o) : ww C M_X12_round 1 0 0 nx (QI nx s o) (XF) nx 0 0 55 [(0, .ref 80), (3, vi x3)] [vi t0] (hp nx s) := by
  unfold Mo_round_b55 at hs
  refine x_iconst dX12_round_55 ?_
  refine w_goto dX12_round_56 rfl ?_
  exact q_Mo_round_b60 hnx x3 t0 (-1) s hs
set_option maxRecDepth 100000 in
theorem q_Mo_round_b24 {C : Cx} {nx : Nat} (hnx : 100 ≤ nx) (x1 : Int) (x2 : Int) (t0 : Int) (t1 : Int) (s : Sg) {o : Int} (hs : Mo_round_b24 x1 x2 t0 t1 s = some o) : ww C M_X12_round 1 0 0 nx (QI nx s o) (XF) nx 0 0 24 [(0, .ref 80), (1, vi x1), (2, vi x2)] [vi t1, vi t0] (hp nx s) := by
  unfold Mo_round_b24 at hs
  refine x_iadd dX12_round_24 ?_
  refine x_istore_n (fun x3_2 => [(3, vi x3_2), (0, .ref 80), (1, vi x1), (2, vi x2)]) hs dX12_round_25 rfl (Nat.le_of_ble_eq_true rfl) (fun _ => rfl) (fun x3_2 hs => ?_)
  refine w_aload_n 1 dX12_round_26 rfl rfl ?_
  refine w_iload_n 2 dX12_round_27 rfl rfl ?_
  refine x_V_I M_X12_column [vi x1] [] hs rfl dX12_round_28 (lkX12_206 _ rfl) (lt_of hnx (Nat.le_of_ble_eq_true rfl)) rfl rfl (Nat.le_of_ble_eq_true rfl) (Nat.le_of_ble_eq_true rfl) (Nat.le_of_ble_eq_true rfl) (Nat.le_of_ble_eq_true rfl) (c_Mo_column hnx x1 s) (fun y3 hy3 hs => ?_)
  refine w_iload_n 3 dX12_round_31 rfl rfl ?_
  refine x_iconst dX12_round_32 ?_
  refine x_icmpeq hs dX12_round_33 rfl (fun hs => ?_) (fun hs => ?_)
  · refine w_lv (lv' := [(0, .ref 80), (3, vi x3_2)]) [1, 0] rfl ?_
    exact q_Mo_round_b41 hnx x3_2 y3 s hs
  · refine w_iload_n 3 dX12_round_36 rfl rfl ?_
    refine x_iconst dX12_round_37 ?_
    refine x_icmpne hs dX12_round_38 rfl (fun hs => ?_) (fun hs => ?_)
    · refine w_iload_n 3 dX12_round_45 rfl rfl ?_
      refine x_iconst dX12_round_46 ?_
      refine x_icmpeq hs dX12_round_47 rfl (fun hs => ?_) (fun hs => ?_)
      · refine w_lv (lv' := [(0, .ref 80), (3, vi x3_2)]) [1, 0] rfl ?_
        exact q_Mo_round_b55 hnx x3_2 y3 s hs
      · refine w_iload_n 3 dX12_round_50 rfl rfl ?_
        refine x_iconst dX12_round_51 ?_
        refine x_icmpne hs dX12_round_52 rfl (fun hs => ?_) (fun hs => ?_)
        · refine x_iconst dX12_round_59 ?_
          refine w_lv (lv' := [(0, .ref 80), (3, vi x3_2)]) [1, 0] rfl ?_
          exact q_Mo_round_b60 hnx x3_2 y3 0 s hs
        · refine w_lv (lv' := [(0, .ref 80), (3, vi x3_2)]) [1, 0] rfl ?_
          exact q_Mo_round_b55 hnx x3_2 y3 s hs
    · refine w_lv (lv' := [(0, .ref 80), (3, vi x3_2)]) [1, 0] rfl ?_
      exact q_Mo_round_b41 hnx x3_2 y3 s hs
set_option maxRecDepth 100000 in
theorem c_Mo_round {C : Cx} {nx : Nat} (hnx : 100 ≤ nx) (x1 : Int) (x2 : Int) (s : Sg) : ∀ o, Mo_round x1 x2 s = some o → mm C M_X12_round 1 0 0 nx nx [.ref 80, vi x1, vi x2] (hp nx s) (QI nx s o) (XF) := by
  intro o hs
  unfold Mo_round at hs
  refine mm_of rfl rfl (Nat.le_of_ble_eq_true rfl) ?_
  show ww C M_X12_round 1 0 0 nx (QI nx s o) (XF) nx 0 0 0 [(0, .ref 80), (1, vi x1), (2, vi x2)] [] (hp nx s)
  refine w_aload_n 0 dX12_round_0 rfl rfl ?_
  refine w_iload_n 1 dX12_round_1 rfl rfl ?_
  refine x_V_I M_X12_row [vi x1] [] hs rfl dX12_round_2 (lkX12_209 _ rfl) (lt_of hnx (Nat.le_of_ble_eq_true rfl)) rfl rfl (Nat.le_of_ble_eq_true rfl) (Nat.le_of_ble_eq_true rfl) (Nat.le_of_ble_eq_true rfl) (Nat.le_of_ble_eq_true rfl) (c_Mo_row hnx x1 s) (fun y1 hy1 hs => ?_)
  refine w_iload_n 2 dX12_round_5 rfl rfl ?_
  refine x_iconst dX12_round_6 ?_
  refine x_icmpge hs dX12_round_7 rfl (fun hs => ?_) (fun hs => ?_)
  · refine w_iload_n 2 dX12_round_14 rfl rfl ?_
    refine x_iconst dX12_round_15 ?_
    refine x_icmpge hs dX12_round_16 rfl (fun hs => ?_) (fun hs => ?_)
    · refine x_iconst dX12_round_23 ?_
      exact q_Mo_round_b24 hnx x1 x2 y1 1 s hs
    · refine x_iconst dX12_round_19 ?_
      refine w_goto dX12_round_20 rfl ?_
      exact q_Mo_round_b24 hnx x1 x2 y1 0 s hs
  · refine x_iconst dX12_round_10 ?_
    refine w_goto dX12_round_11 rfl ?_
    exact q_Mo_round_b24 hnx x1 x2 y1 (-1) s hs
set_option maxRecDepth 100000 in
theorem c_Mo_stone {C : Cx} {nx : Nat} (hnx : 100 ≤ nx) (x1 : Int) (s : Sg) : ∀ o, Mo_stone x1 s = some o → mm C M_X12_stone 0 0 0 nx nx [.ref 80, vi x1] (hp nx s) (QI nx s o) (XF) := by
  intro o hs
  unfold Mo_stone at hs
  refine mm_of rfl rfl (Nat.le_of_ble_eq_true rfl) ?_
  show ww C M_X12_stone 0 0 0 nx (QI nx s o) (XF) nx 0 0 0 [(0, .ref 80), (1, vi x1)] [] (hp nx s)
  refine w_aload_n 0 dX12_stone_0 rfl rfl ?_
  refine x_getR 12 1 (b := 81) dX12_stone_1 (fxX12_9 rfl) rfl rfl (lt_of hnx (Nat.le_of_ble_eq_true rfl)) rfl ?_
  refine x_iconst dX12_stone_4 ?_
  refine w_iload_n 1 dX12_stone_5 rfl rfl ?_
  refine x_iadd dX12_stone_6 ?_
  refine grd_e hs (fun hg1 hs => ?_)
  refine x_iald hg1 (Nat.le_of_ble_eq_true rfl) dX12_stone_7 (Or.inl ⟨rfl, (lt_of hnx (Nat.le_of_ble_eq_true rfl))⟩) ?_
  cases hs
  exact x_ireturn dX12_stone_8 rfl rfl (Nat.le_of_ble_eq_true rfl) (Nat.le_of_ble_eq_true rfl) ⟨rfl, rfl⟩
set_option maxRecDepth 100000 in
theorem q_Mo_lowers_b25 {C : Cx} {nx : Nat} (hnx : 100 ≤ nx) (r1 : Nat) (h_r1 : isRowW nx r1) (x2 : Int) (x3 : Int) (x4 : Int) (t0 : Int) (s : Sg) {o : Int × Sg} (hs : Mo_lowers_b25 r1 x2 x3 x4 t0 s = some o) : ww C M_X12_lowers 1 0 0 nx (QI nx o.2 o.1) (XF) nx 0 0 25 [(1, .ref r1), (2, vi x2), (3, vi x3), (4, vi x4)] [vi t0] (hp nx s) := by
  unfold Mo_lowers_b25 at hs
  refine w_istore (lv' := [(5, vi t0), (1, .ref r1), (2, vi x2), (3, vi x3), (4, vi x4)]) dX12_lowers_25 (Nat.le_of_ble_eq_true rfl) rfl ?_
  refine w_aload_n 1 dX12_lowers_27 rfl rfl ?_
  refine w_iload_n 2 dX12_lowers_28 rfl rfl ?_
  refine w_iload 4 dX12_lowers_29 rfl ?_
  refine grd_e hs (fun hg7 hs => ?_)
  refine x_iast hg7 (alen_le _) dX12_lowers_31 h_r1.1 h_r1.2 ?_
  refine nam_s hs (fun s8 hs => ?_)
  refine w_aload_n 1 dX12_lowers_32 rfl rfl ?_
  refine w_iload_n 3 dX12_lowers_33 rfl rfl ?_
  refine w_iload 4 dX12_lowers_34 rfl ?_
  refine grd_e hs (fun hg9 hs => ?_)
  refine x_iast hg9 (alen_le _) dX12_lowers_36 h_r1.1 h_r1.2 ?_
  refine nam_s hs (fun s10 hs => ?_)
  refine w_iload 0 dX12_lowers_37 rfl ?_
  refine grd_e hs (fun hg11 hs => ?_)
  cases hs
  exact x_zreturn hg11 dX12_lowers_39 rfl rfl (Nat.le_of_ble_eq_true rfl) (Nat.le_of_ble_eq_true rfl) ⟨rfl, rfl⟩
set_option maxRecDepth 100000 in
theorem c_Mo_lowers {C : Cx} {nx : Nat} (hnx : 100 ≤ nx) (r1 : Nat) (h_r1 : isRowW nx r1) (x2 : Int) (x3 : Int) (s : Sg) : ∀ o, Mo_lowers r1 x2 x3 s = some o → mm C M_X12_lowers 1 0 0 nx nx [.ref 80, .ref r1, vi x2, vi x3] (hp nx s) (QI nx o.2 o.1) (XF) := by
  intro o hs
  unfold Mo_lowers at hs
  refine mm_of rfl rfl (Nat.le_of_ble_eq_true rfl) ?_
  show ww C M_X12_lowers 1 0 0 nx (QI nx o.2 o.1) (XF) nx 0 0 0 [(0, .ref 80), (1, .ref r1), (2, vi x2), (3, vi x3)] [] (hp nx s)
  refine w_aload_n 1 dX12_lowers_0 rfl rfl ?_
  refine w_iload_n 2 dX12_lowers_1 rfl rfl ?_
  refine grd_e hs (fun hg1 hs => ?_)
  refine x_iald hg1 (alen_le _) dX12_lowers_2 (isRow_A (Or.inl h_r1)) ?_
  refine w_aload_n 1 dX12_lowers_3 rfl rfl ?_
  refine w_iload_n 3 dX12_lowers_4 rfl rfl ?_
  refine grd_e hs (fun hg2 hs => ?_)
  refine x_iald hg2 (alen_le _) dX12_lowers_5 (isRow_A (Or.inl h_r1)) ?_
  refine grd_e hs (fun hg3 hs => ?_)
  refine x_mmin hg3.1 hg3.2 dX12_lowers_6 (lkX12_222 rfl) (Nat.le_of_ble_eq_true rfl) (Nat.le_of_ble_eq_true rfl) (Nat.le_of_ble_eq_true rfl) (Nat.le_of_ble_eq_true rfl) ?_
  refine x_istore (fun x4_4 => [(4, vi x4_4), (0, .ref 80), (1, .ref r1), (2, vi x2), (3, vi x3)]) hs dX12_lowers_9 (Nat.le_of_ble_eq_true rfl) (fun _ => rfl) (fun x4_4 hs => ?_)
  refine w_aload_n 2 dX12_lowers_11 rfl rfl ?_
  refine w_iload_n 3 dX12_lowers_12 rfl rfl ?_
  refine grd_e hs (fun hg5 hs => ?_)
  refine x_iald hg5 (alen_le _) dX12_lowers_13 (isRow_A (Or.inl h_r1)) ?_
  refine w_aload_n 2 dX12_lowers_14 rfl rfl ?_
  refine w_iload_n 4 dX12_lowers_15 rfl rfl ?_
  refine grd_e hs (fun hg6 hs => ?_)
  refine x_iald hg6 (alen_le _) dX12_lowers_16 (isRow_A (Or.inl h_r1)) ?_
  refine x_icmpeq hs dX12_lowers_17 rfl (fun hs => ?_) (fun hs => ?_)
  · refine x_iconst dX12_lowers_24 ?_
    refine w_lv (lv' := [(1, .ref r1), (2, vi x2), (3, vi x3), (4, vi x4_4)]) [2, 3, 4, 0] rfl ?_
    exact q_Mo_lowers_b25 hnx r1 h_r1 x2 x3 x4_4 0 s hs
  · refine x_iconst dX12_lowers_20 ?_
    refine w_goto dX12_lowers_21 rfl ?_
    refine w_lv (lv' := [(1, .ref r1), (2, vi x2), (3, vi x3), (4, vi x4_4)]) [2, 3, 4, 0] rfl ?_
    exact q_Mo_lowers_b25 hnx r1 h_r1 x2 x3 x4_4 1 s hs
set_option maxRecDepth 100000 in
theorem q_Mo_lowersNeighbours_b73 {C : Cx} {nx : Nat} (hnx : 100 ≤ nx) {Qr : Option Value → Hp → Prop} {Qx : String → Hp → Prop}  (r1 : Nat) (h_r1 : isRowW nx r1) (x2 : Int) (x3 : Int) (x4 : Int) (s : Sg) {o : ((Int × Int × Sg) ⊕ (Int × Sg))} (hs : Mo_lowersNeighbours_b73 r1 x2 x3 x4 s = some o) (hb : ∀ σ : Int × Int × Sg, o = .inl σ → ww C M_X12_lowersNeighbours 2 0 0 nx (Qr) (Qx) nx 0 0 15 [(0, .ref 80), (1, .ref r1), (2, vi σ.1), (3, vi x3), (4, vi σ.2.1)] [] (hp nx σ.2.2)) (he0 : ∀ ρ : Int × Sg, o = .inr ρ → ww C M_X12_lowersNeighbours 2 0 0 nx (Qr) (Qx) nx 0 0 79 [(0, .ref 80), (1, .ref r1), (2, vi ρ.1), (3, vi x3)] [] (hp nx ρ.2)) : ww C M_X12_lowersNeighbours 2 0 0 nx (Qr) (Qx) nx 0 0 73 [(0, .ref 80), (1, .ref r1), (2, vi x2), (3, vi x3), (4, vi x4)] [] (hp nx s) := by
  unfold Mo_lowersNeighbours_b73 at hs
  refine x_iinc (lv' := [(4, vi (x4 + 1)), (0, .ref 80), (1, .ref r1), (2, vi x2), (3, vi x3)]) 4 dX12_lowersNeighbours_73 rfl (Nat.le_of_ble_eq_true rfl) rfl ?_
  refine w_goto dX12_lowersNeighbours_76 rfl ?_
  refine w_lv (lv' := [(0, .ref 80), (1, .ref r1), (2, vi x2), (3, vi x3), (4, vi (x4 + 1))]) [1, 2, 3, 4, 0] rfl ?_
  cases hs
  exact hb _ rfl
set_option maxRecDepth 100000 in
theorem q_Mo_lowersNeighbours_t15 {C : Cx} {nx : Nat} (hnx : 100 ≤ nx) {Qr : Option Value → Hp → Prop} {Qx : String → Hp → Prop}  (r1 : Nat) (h_r1 : isRowW nx r1) (x2 : Int) (x3 : Int) (x4 : Int) (s : Sg) {o : ((Int × Int × Sg) ⊕ (Int × Sg))} (hs : Mo_lowersNeighbours_t15 r1 x2 x3 x4 s = some o) (hb : ∀ σ : Int × Int × Sg, o = .inl σ → ww C M_X12_lowersNeighbours 2 0 0 nx (Qr) (Qx) nx 0 0 15 [(0, .ref 80), (1, .ref r1), (2, vi σ.1), (3, vi x3), (4, vi σ.2.1)] [] (hp nx σ.2.2)) (he0 : ∀ ρ : Int × Sg, o = .inr ρ → ww C M_X12_lowersNeighbours 2 0 0 nx (Qr) (Qx) nx 0 0 79 [(0, .ref 80), (1, .ref r1), (2, vi ρ.1), (3, vi x3)] [] (hp nx ρ.2)) : ww C M_X12_lowersNeighbours 2 0 0 nx (Qr) (Qx) nx 0 0 15 [(0, .ref 80), (1, .ref r1), (2, vi x2), (3, vi x3), (4, vi x4)] [] (hp nx s) := by
  unfold Mo_lowersNeighbours_t15 at hs
  refine w_iload 4 dX12_lowersNeighbours_15 rfl ?_
  refine x_bipush dX12_lowersNeighbours_17 (by decide) ?_
  refine x_icmpge hs dX12_lowersNeighbours_19 rfl (fun hs => ?_) (fun hs => ?_)
  · refine w_lv (lv' := [(0, .ref 80), (1, .ref r1), (2, vi x2), (3, vi x3)]) [0, 1, 2, 3] rfl ?_
    cases hs
    exact he0 _ rfl
  · refine w_aload_n 0 dX12_lowersNeighbours_22 rfl rfl ?_
    refine w_iload_n 3 dX12_lowersNeighbours_23 rfl rfl ?_
    refine w_iload 4 dX12_lowersNeighbours_24 rfl ?_
    refine x_V_I M_X12_round [vi x3, vi x4] [] hs rfl dX12_lowersNeighbours_26 (lkX12_218 _ rfl) (lt_of hnx (Nat.le_of_ble_eq_true rfl)) rfl rfl (Nat.le_of_ble_eq_true rfl) (Nat.le_of_ble_eq_true rfl) (Nat.le_of_ble_eq_true rfl) (Nat.le_of_ble_eq_true rfl) (c_Mo_round hnx x3 x4 s) (fun y2 hy2 hs => ?_)
    refine w_istore (lv' := [(5, vi y2), (0, .ref 80), (1, .ref r1), (2, vi x2), (3, vi x3), (4, vi x4)]) dX12_lowersNeighbours_29 (Nat.le_of_ble_eq_true rfl) rfl ?_
    refine w_iload 0 dX12_lowersNeighbours_31 rfl ?_
    refine x_iconst dX12_lowersNeighbours_33 ?_
    refine x_icmpeq hs dX12_lowersNeighbours_34 rfl (fun hs => ?_) (fun hs => ?_)
    · refine w_lv (lv' := [(0, .ref 80), (1, .ref r1), (2, vi x2), (3, vi x3), (4, vi x4)]) [1, 2, 3, 4, 5] rfl ?_
      exact q_Mo_lowersNeighbours_b73 hnx r1 h_r1 x2 x3 x4 s hs hb he0
    · refine w_aload_n 1 dX12_lowersNeighbours_37 rfl rfl ?_
      refine w_iload_n 4 dX12_lowersNeighbours_38 rfl rfl ?_
      refine x_V_I M_X12_stone [vi x3] [] hs rfl dX12_lowersNeighbours_39 (lkX12_215 _ rfl) (lt_of hnx (Nat.le_of_ble_eq_true rfl)) rfl rfl (Nat.le_of_ble_eq_true rfl) (Nat.le_of_ble_eq_true rfl) (Nat.le_of_ble_eq_true rfl) (Nat.le_of_ble_eq_true rfl) (c_Mo_stone hnx x3 s) (fun y3 hy3 hs => ?_)
      refine x_iconst dX12_lowersNeighbours_42 ?_
      refine x_icmpeq hs dX12_lowersNeighbours_43 rfl (fun hs => ?_) (fun hs => ?_)
      · refine w_lv (lv' := [(0, .ref 80), (1, .ref r1), (2, vi x2), (3, vi x3), (4, vi x4)]) [1, 2, 3, 4, 5] rfl ?_
        exact q_Mo_lowersNeighbours_b73 hnx r1 h_r1 x2 x3 x4 s hs hb he0
      · refine w_aload_n 1 dX12_lowersNeighbours_46 rfl rfl ?_
        refine w_iload_n 4 dX12_lowersNeighbours_47 rfl rfl ?_
        refine x_V_I M_X12_stone [vi x3] [] hs rfl dX12_lowersNeighbours_48 (lkX12_215 _ rfl) (lt_of hnx (Nat.le_of_ble_eq_true rfl)) rfl rfl (Nat.le_of_ble_eq_true rfl) (Nat.le_of_ble_eq_true rfl) (Nat.le_of_ble_eq_true rfl) (Nat.le_of_ble_eq_true rfl) (c_Mo_stone hnx x3 s) (fun y4 hy4 hs => ?_)
        refine w_aload_n 1 dX12_lowersNeighbours_51 rfl rfl ?_
        refine w_iload 0 dX12_lowersNeighbours_52 rfl ?_
        refine x_V_I M_X12_stone [vi y2] [vi y4] hs rfl dX12_lowersNeighbours_54 (lkX12_215 _ rfl) (lt_of hnx (Nat.le_of_ble_eq_true rfl)) rfl rfl (Nat.le_of_ble_eq_true rfl) (Nat.le_of_ble_eq_true rfl) (Nat.le_of_ble_eq_true rfl) (Nat.le_of_ble_eq_true rfl) (c_Mo_stone hnx y2 s) (fun y5 hy5 hs => ?_)
        refine x_icmpne hs dX12_lowersNeighbours_57 rfl (fun hs => ?_) (fun hs => ?_)
        · refine w_lv (lv' := [(0, .ref 80), (1, .ref r1), (2, vi x2), (3, vi x3), (4, vi x4)]) [1, 2, 3, 4, 5] rfl ?_
          exact q_Mo_lowersNeighbours_b73 hnx r1 h_r1 x2 x3 x4 s hs hb he0
        · refine w_aload_n 1 dX12_lowersNeighbours_60 rfl rfl ?_
          refine w_aload_n 2 dX12_lowersNeighbours_61 rfl rfl ?_
          refine w_iload_n 4 dX12_lowersNeighbours_62 rfl rfl ?_
          refine w_iload 0 dX12_lowersNeighbours_63 rfl ?_
          refine x_V_B M_X12_lowers [.ref r1, vi x3, vi y2] [] hs rfl dX12_lowersNeighbours_65 (lkX12_227 _ rfl) (lt_of hnx (Nat.le_of_ble_eq_true rfl)) rfl rfl (Nat.le_of_ble_eq_true rfl) (Nat.le_of_ble_eq_true rfl) (Nat.le_of_ble_eq_true rfl) (Nat.le_of_ble_eq_true rfl) (c_Mo_lowers hnx r1 h_r1 x3 y2 s) (fun y6 s7 hy6 hs => ?_)
          refine x_ifeq hs dX12_lowersNeighbours_68 rfl (fun hs => ?_) (fun hs => ?_)
          · refine w_lv (lv' := [(0, .ref 80), (1, .ref r1), (2, vi x2), (3, vi x3), (4, vi x4)]) [1, 2, 3, 4, 5] rfl ?_
            exact q_Mo_lowersNeighbours_b73 hnx r1 h_r1 x2 x3 x4 s7 hs hb he0
          · refine x_iconst dX12_lowersNeighbours_71 ?_
            refine w_istore_n (lv' := [(2, vi 1), (5, vi y2), (0, .ref 80), (1, .ref r1), (3, vi x3), (4, vi x4)]) dX12_lowersNeighbours_72 rfl (Nat.le_of_ble_eq_true rfl) rfl ?_
            refine w_lv (lv' := [(0, .ref 80), (1, .ref r1), (2, vi 1), (3, vi x3), (4, vi x4)]) [2, 3, 0, 4, 5] rfl ?_
            exact q_Mo_lowersNeighbours_b73 hnx r1 h_r1 1 x3 x4 s7 hs hb he0
set_option maxRecDepth 100000 in
theorem q_Mo_lowersNeighbours_l15 {C : Cx} {nx : Nat} (hnx : 100 ≤ nx) {Qr : Option Value → Hp → Prop} {Qx : String → Hp → Prop}  (r1 : Nat) (h_r1 : isRowW nx r1) (x2 : Int) (x3 : Int) (x4 : Int) (s : Sg) {o : ((Int × Int × Sg) ⊕ (Int × Sg))} (hs : Mo_lowersNeighbours_l15 r1 x2 x3 x4 s = some o) (hb : ∀ σ : Int × Int × Sg, o = .inl σ → ww C M_X12_lowersNeighbours 2 0 0 nx (Qr) (Qx) nx 0 0 4 [(0, .ref 80), (1, .ref r1), (2, vi σ.1), (3, vi σ.2.1)] [] (hp nx σ.2.2)) (he0 : ∀ ρ : Int × Sg, o = .inr ρ → ww C M_X12_lowersNeighbours 2 0 0 nx (Qr) (Qx) nx 0 0 85 [(2, vi ρ.1)] [] (hp nx ρ.2)) : ww C M_X12_lowersNeighbours 2 0 0 nx (Qr) (Qx) nx 0 0 15 [(0, .ref 80), (1, .ref r1), (2, vi x2), (3, vi x3), (4, vi x4)] [] (hp nx s) := by
  unfold Mo_lowersNeighbours_l15 at hs
  refine bnd_e hs (fun ρ hw hs => ?_)
  obtain ⟨x2_8, s_9⟩ := ρ
  have hE : ww C M_X12_lowersNeighbours 2 0 0 nx (Qr) (Qx) nx 0 0 79 [(0, .ref 80), (1, .ref r1), (2, vi x2_8), (3, vi x3)] [] (hp nx s_9) := by
    refine x_iinc (lv' := [(3, vi (x3 + 1)), (0, .ref 80), (1, .ref r1), (2, vi x2_8)]) 3 dX12_lowersNeighbours_79 rfl (Nat.le_of_ble_eq_true rfl) rfl ?_
    refine w_goto dX12_lowersNeighbours_82 rfl ?_
    refine w_lv (lv' := [(0, .ref 80), (1, .ref r1), (2, vi x2_8), (3, vi (x3 + 1))]) [1, 2, 3, 0] rfl ?_
    cases hs
    exact hb _ rfl
  refine whl_w (P := fun σ => ww C M_X12_lowersNeighbours 2 0 0 nx (Qr) (Qx) nx 0 0 15 [(0, .ref 80), (1, .ref r1), (2, vi σ.1), (3, vi x3), (4, vi σ.2.1)] [] (hp nx σ.2.2)) (E := fun ρ => ρ = (x2_8, s_9)) hw rfl ?_
  intro σ o' hs' hb' he'
  exact q_Mo_lowersNeighbours_t15 hnx r1 h_r1 σ.1 x3 σ.2.1 σ.2.2 hs' hb' (fun ρ e => by cases he' _ e; exact hE)
set_option maxRecDepth 100000 in
theorem q_Mo_lowersNeighbours_t4 {C : Cx} {nx : Nat} (hnx : 100 ≤ nx) {Qr : Option Value → Hp → Prop} {Qx : String → Hp → Prop}  (r1 : Nat) (h_r1 : isRowW nx r1) (x2 : Int) (x3 : Int) (s : Sg) {o : ((Int × Int × Sg) ⊕ (Int × Sg))} (hs : Mo_lowersNeighbours_t4 r1 x2 x3 s = some o) (hb : ∀ σ : Int × Int × Sg, o = .inl σ → ww C M_X12_lowersNeighbours 2 0 0 nx (Qr) (Qx) nx 0 0 4 [(0, .ref 80), (1, .ref r1), (2, vi σ.1), (3, vi σ.2.1)] [] (hp nx σ.2.2)) (he0 : ∀ ρ : Int × Sg, o = .inr ρ → ww C M_X12_lowersNeighbours 2 0 0 nx (Qr) (Qx) nx 0 0 85 [(2, vi ρ.1)] [] (hp nx ρ.2)) : ww C M_X12_lowersNeighbours 2 0 0 nx (Qr) (Qx) nx 0 0 4 [(0, .ref 80), (1, .ref r1), (2, vi x2), (3, vi x3)] [] (hp nx s) := by
  unfold Mo_lowersNeighbours_t4 at hs
  refine w_iload_n 3 dX12_lowersNeighbours_4 rfl rfl ?_
  refine w_aload_n 0 dX12_lowersNeighbours_5 rfl rfl ?_
  refine x_V_I M_X12_cells [] [vi x3] hs rfl dX12_lowersNeighbours_6 (lkX12_212 _ rfl) (lt_of hnx (Nat.le_of_ble_eq_true rfl)) rfl rfl (Nat.le_of_ble_eq_true rfl) (Nat.le_of_ble_eq_true rfl) (Nat.le_of_ble_eq_true rfl) (Nat.le_of_ble_eq_true rfl) (c_Mo_cells hnx s) (fun y1 hy1 hs => ?_)
  refine x_icmpge hs dX12_lowersNeighbours_9 rfl (fun hs => ?_) (fun hs => ?_)
  · refine w_lv (lv' := [(2, vi x2)]) [2] rfl ?_
    cases hs
    exact he0 _ rfl
  · refine x_iconst dX12_lowersNeighbours_12 ?_
    refine w_istore (lv' := [(4, vi 0), (0, .ref 80), (1, .ref r1), (2, vi x2), (3, vi x3)]) dX12_lowersNeighbours_13 (Nat.le_of_ble_eq_true rfl) rfl ?_
    refine w_lv (lv' := [(0, .ref 80), (1, .ref r1), (2, vi x2), (3, vi x3), (4, vi 0)]) [1, 2, 3, 4, 0] rfl ?_
    exact q_Mo_lowersNeighbours_l15 hnx r1 h_r1 x2 x3 0 s hs hb he0
set_option maxRecDepth 100000 in
theorem q_Mo_lowersNeighbours_l4 {C : Cx} {nx : Nat} (hnx : 100 ≤ nx) (r1 : Nat) (h_r1 : isRowW nx r1) (x2 : Int) (x3 : Int) (s : Sg) {o : Int × Sg} (hs : Mo_lowersNeighbours_l4 r1 x2 x3 s = some o) : ww C M_X12_lowersNeighbours 2 0 0 nx (QI nx o.2 o.1) (XF) nx 0 0 4 [(0, .ref 80), (1, .ref r1), (2, vi x2), (3, vi x3)] [] (hp nx s) := by
  unfold Mo_lowersNeighbours_l4 at hs
  refine bnd_e hs (fun ρ hw hs => ?_)
  obtain ⟨x2_10, s_11⟩ := ρ
  have hE : ww C M_X12_lowersNeighbours 2 0 0 nx (QI nx o.2 o.1) (XF) nx 0 0 85 [(2, vi x2_10)] [] (hp nx s_11) := by
    refine w_iload_n 0 dX12_lowersNeighbours_85 rfl rfl ?_
    refine grd_e hs (fun hg12 hs => ?_)
    cases hs
    exact x_zreturn hg12 dX12_lowersNeighbours_86 rfl rfl (Nat.le_of_ble_eq_true rfl) (Nat.le_of_ble_eq_true rfl) ⟨rfl, rfl⟩
  refine whl_w (P := fun σ => ww C M_X12_lowersNeighbours 2 0 0 nx (QI nx o.2 o.1) (XF) nx 0 0 4 [(0, .ref 80), (1, .ref r1), (2, vi σ.1), (3, vi σ.2.1)] [] (hp nx σ.2.2)) (E := fun ρ => ρ = (x2_10, s_11)) hw rfl ?_
  intro σ o' hs' hb' he'
  exact q_Mo_lowersNeighbours_t4 hnx r1 h_r1 σ.1 σ.2.1 σ.2.2 hs' hb' (fun ρ e => by cases he' _ e; exact hE)
set_option maxRecDepth 100000 in
theorem c_Mo_lowersNeighbours {C : Cx} {nx : Nat} (hnx : 100 ≤ nx) (r1 : Nat) (h_r1 : isRowW nx r1) (s : Sg) : ∀ o, Mo_lowersNeighbours r1 s = some o → mm C M_X12_lowersNeighbours 2 0 0 nx nx [.ref 80, .ref r1] (hp nx s) (QI nx o.2 o.1) (XF) := by
  intro o hs
  unfold Mo_lowersNeighbours at hs
  refine mm_of rfl rfl (Nat.le_of_ble_eq_true rfl) ?_
  show ww C M_X12_lowersNeighbours 2 0 0 nx (QI nx o.2 o.1) (XF) nx 0 0 0 [(0, .ref 80), (1, .ref r1)] [] (hp nx s)
  refine x_iconst dX12_lowersNeighbours_0 ?_
  refine w_istore_n (lv' := [(2, vi 0), (0, .ref 80), (1, .ref r1)]) dX12_lowersNeighbours_1 rfl (Nat.le_of_ble_eq_true rfl) rfl ?_
  refine x_iconst dX12_lowersNeighbours_2 ?_
  refine w_istore_n (lv' := [(3, vi 0), (2, vi 0), (0, .ref 80), (1, .ref r1)]) dX12_lowersNeighbours_3 rfl (Nat.le_of_ble_eq_true rfl) rfl ?_
  refine w_lv (lv' := [(0, .ref 80), (1, .ref r1), (2, vi 0), (3, vi 0)]) [2, 3, 1, 0] rfl ?_
  exact q_Mo_lowersNeighbours_l4 hnx r1 h_r1 0 0 s hs
set_option maxRecDepth 100000 in
theorem q_Mo_laysGroups_t10 {C : Cx} {nx : Nat} (hnx : 100 ≤ nx) {Qr : Option Value → Hp → Prop} {Qx : String → Hp → Prop}  (x1 : Int) (s : Sg) {o : ((Int × Sg) ⊕ (Sg))} (hs : Mo_laysGroups_t10 x1 s = some o) (hb : ∀ σ : Int × Sg, o = .inl σ → ww C M_X12_laysGroups 3 0 0 nx (Qr) (Qx) nx 0 0 10 [(0, .ref 80), (1, vi σ.1)] [] (hp nx σ.2)) (he0 : ∀ ρ : Sg, o = .inr ρ → ww C M_X12_laysGroups 3 0 0 nx (Qr) (Qx) nx 0 0 26 [] [] (hp nx ρ)) : ww C M_X12_laysGroups 3 0 0 nx (Qr) (Qx) nx 0 0 10 [(0, .ref 80), (1, vi x1)] [] (hp nx s) := by
  unfold Mo_laysGroups_t10 at hs
  refine w_iload_n 1 dX12_laysGroups_10 rfl rfl ?_
  refine x_ifeq hs dX12_laysGroups_11 rfl (fun hs => ?_) (fun hs => ?_)
  · refine w_lv (lv' := []) [] rfl ?_
    cases hs
    exact he0 _ rfl
  · refine w_aload_n 0 dX12_laysGroups_14 rfl rfl ?_
    refine w_aload_n 0 dX12_laysGroups_15 rfl rfl ?_
    refine x_getR 12 17 (b := 87) dX12_laysGroups_16 (fxX12_34 rfl) rfl rfl (lt_of hnx (Nat.le_of_ble_eq_true rfl)) rfl ?_
    refine x_V_B M_X12_lowersNeighbours [.ref 87] [] hs rfl dX12_laysGroups_19 (lkX12_235 _ rfl) (lt_of hnx (Nat.le_of_ble_eq_true rfl)) rfl rfl (Nat.le_of_ble_eq_true rfl) (Nat.le_of_ble_eq_true rfl) (Nat.le_of_ble_eq_true rfl) (Nat.le_of_ble_eq_true rfl) (c_Mo_lowersNeighbours hnx 87 (rowW_of rfl (lt_of hnx (Nat.le_of_ble_eq_true rfl))) s) (fun y3 s4 hy3 hs => ?_)
    refine w_istore_n (lv' := [(1, vi y3), (0, .ref 80)]) dX12_laysGroups_22 rfl (Nat.le_of_ble_eq_true rfl) rfl ?_
    refine w_goto dX12_laysGroups_23 rfl ?_
    refine w_lv (lv' := [(0, .ref 80), (1, vi y3)]) [1, 0] rfl ?_
    cases hs
    exact hb _ rfl
set_option maxRecDepth 100000 in
theorem q_Mo_laysGroups_l10 {C : Cx} {nx : Nat} (hnx : 100 ≤ nx) (x1 : Int) (s : Sg) {o : Sg} (hs : Mo_laysGroups_l10 x1 s = some o) : ww C M_X12_laysGroups 3 0 0 nx (QV nx o) (XF) nx 0 0 10 [(0, .ref 80), (1, vi x1)] [] (hp nx s) := by
  unfold Mo_laysGroups_l10 at hs
  refine bnd_e hs (fun s_5 hw hs => ?_)
  have hE : ww C M_X12_laysGroups 3 0 0 nx (QV nx o) (XF) nx 0 0 26 [] [] (hp nx s_5) := by
    cases hs
    exact w_return rfl dX12_laysGroups_26 rfl (Nat.le_of_ble_eq_true rfl) (Nat.le_of_ble_eq_true rfl) ⟨rfl, rfl⟩
  refine whl_w (P := fun σ => ww C M_X12_laysGroups 3 0 0 nx (QV nx o) (XF) nx 0 0 10 [(0, .ref 80), (1, vi σ.1)] [] (hp nx σ.2)) (E := fun ρ => ρ = s_5) hw rfl ?_
  intro σ o' hs' hb' he'
  exact q_Mo_laysGroups_t10 hnx σ.1 σ.2 hs' hb' (fun ρ e => by cases he' _ e; exact hE)
set_option maxRecDepth 100000 in
theorem c_Mo_laysGroups {C : Cx} {nx : Nat} (hnx : 100 ≤ nx)  (s : Sg) : ∀ o, Mo_laysGroups  s = some o → mm C M_X12_laysGroups 3 0 0 nx nx [.ref 80] (hp nx s) (QV nx o) (XF) := by
  intro o hs
  unfold Mo_laysGroups at hs
  refine mm_of rfl rfl (Nat.le_of_ble_eq_true rfl) ?_
  show ww C M_X12_laysGroups 3 0 0 nx (QV nx o) (XF) nx 0 0 0 [(0, .ref 80)] [] (hp nx s)
  refine w_aload_n 0 dX12_laysGroups_0 rfl rfl ?_
  refine w_aload_n 0 dX12_laysGroups_1 rfl rfl ?_
  refine x_getR 12 17 (b := 87) dX12_laysGroups_2 (fxX12_34 rfl) rfl rfl (lt_of hnx (Nat.le_of_ble_eq_true rfl)) rfl ?_
  refine x_V_V M_X12_marksSelves [.ref 87] [] hs rfl dX12_laysGroups_5 (lkX12_231 _ rfl) (lt_of hnx (Nat.le_of_ble_eq_true rfl)) rfl rfl (Nat.le_of_ble_eq_true rfl) (Nat.le_of_ble_eq_true rfl) (Nat.le_of_ble_eq_true rfl) (Nat.le_of_ble_eq_true rfl) (c_Mo_marksSelves hnx 87 (rowW_of rfl (lt_of hnx (Nat.le_of_ble_eq_true rfl))) s) (fun s2 hs2 hs => ?_)
  refine x_iconst dX12_laysGroups_8 ?_
  refine w_istore_n (lv' := [(1, vi 1), (0, .ref 80)]) dX12_laysGroups_9 rfl (Nat.le_of_ble_eq_true rfl) rfl ?_
  refine w_lv (lv' := [(0, .ref 80), (1, vi 1)]) [1, 0] rfl ?_
  exact q_Mo_laysGroups_l10 hnx 1 s2 hs

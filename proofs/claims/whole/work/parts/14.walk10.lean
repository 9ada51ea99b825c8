set_option maxRecDepth 100000 in
theorem c_Mo_says {C : Cx} {nx : Nat} (hnx : 100 ≤ nx) (x1 : Int) (s : Sg) : ∀ o, Mo_says x1 s = some o → mm C M_X12_says 0 0 0 nx nx [.ref 80, vi x1] (hp nx s) (QV nx o) (XF) := by
  intro o hs
  unfold Mo_says at hs
  refine mm_of rfl rfl (Nat.le_of_ble_eq_true rfl) ?_
  show ww C M_X12_says 0 0 0 nx (QV nx o) (XF) nx 0 0 0 [(0, .ref 80), (1, vi x1)] [] (hp nx s)
  refine w_aload_n 0 dX12_says_0 rfl rfl ?_
  refine x_getR 12 34 (b := 99) dX12_says_1 (fxX12_70 rfl) rfl rfl (lt_of hnx (Nat.le_of_ble_eq_true rfl)) rfl ?_
  refine w_aload_n 0 dX12_says_4 rfl rfl ?_
  refine x_getI 12 35 dX12_says_5 (fxX12_438 rfl) rfl rfl (lt_of hnx (Nat.le_of_ble_eq_true rfl)) ?_
  refine w_iload_n 1 dX12_says_8 rfl rfl ?_
  refine grd_e hs (fun hg1 hs => ?_)
  refine x_iast hg1 (Nat.le_of_ble_eq_true rfl) dX12_says_9 rfl (lt_of hnx (Nat.le_of_ble_eq_true rfl)) ?_
  refine nam_s hs (fun s2 hs => ?_)
  refine w_aload_n 0 dX12_says_10 rfl rfl ?_
  refine w_dup dX12_says_11 rfl ?_
  refine x_getI 12 35 dX12_says_12 (fxX12_438 rfl) rfl rfl (lt_of hnx (Nat.le_of_ble_eq_true rfl)) ?_
  refine x_iconst dX12_says_15 ?_
  refine x_iadd dX12_says_16 ?_
  refine x_putI 12 35 dX12_says_17 (poX12_438 rfl) rfl rfl (lt_of hnx (Nat.le_of_ble_eq_true rfl)) ?_
  refine nam_s hs (fun s3 hs => ?_)
  cases hs
  exact w_return rfl dX12_says_20 rfl (Nat.le_of_ble_eq_true rfl) (Nat.le_of_ble_eq_true rfl) ⟨rfl, rfl⟩
set_option maxRecDepth 100000 in
theorem q_Mo_writeRow_b86 {C : Cx} {nx : Nat} (hnx : 100 ≤ nx) {Qr : Option Value → Hp → Prop} {Qx : String → Hp → Prop}  (x1 : Int) (x2 : Int) (t1 : Int) (s : Sg) {o : ((Int × Sg) ⊕ (Sg))} (hs : Mo_writeRow_b86 x1 x2 t1 s = some o) (hb : ∀ σ : Int × Sg, o = .inl σ → ww C M_X12_writeRow 1 0 0 nx (Qr) (Qx) nx 0 0 39 [(0, .ref 80), (1, vi x1), (2, vi σ.1)] [] (hp nx σ.2)) (he0 : ∀ ρ : Sg, o = .inr ρ → ww C M_X12_writeRow 1 0 0 nx (Qr) (Qx) nx 0 0 95 [(0, .ref 80)] [] (hp nx ρ)) : ww C M_X12_writeRow 1 0 0 nx (Qr) (Qx) nx 0 0 86 [(0, .ref 80), (1, vi x1), (2, vi x2)] [vi t1, .ref 80] (hp nx s) := by
  unfold Mo_writeRow_b86 at hs
  refine x_V_V M_X12_says [vi t1] [] hs rfl dX12_writeRow_86 (lkX12_441 _ rfl) (lt_of hnx (Nat.le_of_ble_eq_true rfl)) rfl rfl (Nat.le_of_ble_eq_true rfl) (Nat.le_of_ble_eq_true rfl) (Nat.le_of_ble_eq_true rfl) (Nat.le_of_ble_eq_true rfl) (c_Mo_says hnx t1 s) (fun s12 hs12 hs => ?_)
  refine x_iinc (lv' := [(2, vi (x2 + 1)), (0, .ref 80), (1, vi x1)]) 2 dX12_writeRow_89 rfl (Nat.le_of_ble_eq_true rfl) rfl ?_
  refine w_goto dX12_writeRow_92 rfl ?_
  refine w_lv (lv' := [(0, .ref 80), (1, vi x1), (2, vi (x2 + 1))]) [1, 2, 0] rfl ?_
  cases hs
  exact hb _ rfl
set_option maxRecDepth 100000 in
theorem q_Mo_writeRow_t39 {C : Cx} {nx : Nat} (hnx : 100 ≤ nx) {Qr : Option Value → Hp → Prop} {Qx : String → Hp → Prop}  (x1 : Int) (x2 : Int) (s : Sg) {o : ((Int × Sg) ⊕ (Sg))} (hs : Mo_writeRow_t39 x1 x2 s = some o) (hb : ∀ σ : Int × Sg, o = .inl σ → ww C M_X12_writeRow 1 0 0 nx (Qr) (Qx) nx 0 0 39 [(0, .ref 80), (1, vi x1), (2, vi σ.1)] [] (hp nx σ.2)) (he0 : ∀ ρ : Sg, o = .inr ρ → ww C M_X12_writeRow 1 0 0 nx (Qr) (Qx) nx 0 0 95 [(0, .ref 80)] [] (hp nx ρ)) : ww C M_X12_writeRow 1 0 0 nx (Qr) (Qx) nx 0 0 39 [(0, .ref 80), (1, vi x1), (2, vi x2)] [] (hp nx s) := by
  unfold Mo_writeRow_t39 at hs
  refine w_iload_n 2 dX12_writeRow_39 rfl rfl ?_
  refine w_aload_n 0 dX12_writeRow_40 rfl rfl ?_
  refine x_getR 12 1 (b := 81) dX12_writeRow_41 (fxX12_9 rfl) rfl rfl (lt_of hnx (Nat.le_of_ble_eq_true rfl)) rfl ?_
  refine x_iconst dX12_writeRow_44 ?_
  refine grd_e hs (fun hg8 hs => ?_)
  refine x_iald ⟨by decide, by decide⟩ (Nat.le_of_ble_eq_true rfl) dX12_writeRow_45 (Or.inl ⟨rfl, (lt_of hnx (Nat.le_of_ble_eq_true rfl))⟩) ?_
  refine x_icmpge hs dX12_writeRow_46 rfl (fun hs => ?_) (fun hs => ?_)
  · refine w_lv (lv' := [(0, .ref 80)]) [0] rfl ?_
    cases hs
    exact he0 _ rfl
  · refine w_aload_n 0 dX12_writeRow_49 rfl rfl ?_
    refine w_aload_n 0 dX12_writeRow_50 rfl rfl ?_
    refine x_getR 12 1 (b := 81) dX12_writeRow_51 (fxX12_9 rfl) rfl rfl (lt_of hnx (Nat.le_of_ble_eq_true rfl)) rfl ?_
    refine x_iconst dX12_writeRow_54 ?_
    refine grd_e hs (fun hg9 hs => ?_)
    refine x_iald ⟨by decide, by decide⟩ (Nat.le_of_ble_eq_true rfl) dX12_writeRow_55 (Or.inl ⟨rfl, (lt_of hnx (Nat.le_of_ble_eq_true rfl))⟩) ?_
    refine w_iload_n 1 dX12_writeRow_56 rfl rfl ?_
    refine x_imul dX12_writeRow_57 ?_
    refine w_iload_n 2 dX12_writeRow_58 rfl rfl ?_
    refine x_iadd dX12_writeRow_59 ?_
    refine x_V_I M_X12_stone [vi (((gi s 81 0) * x1) + x2)] [] hs rfl dX12_writeRow_60 (lkX12_215 _ rfl) (lt_of hnx (Nat.le_of_ble_eq_true rfl)) rfl rfl (Nat.le_of_ble_eq_true rfl) (Nat.le_of_ble_eq_true rfl) (Nat.le_of_ble_eq_true rfl) (Nat.le_of_ble_eq_true rfl) (c_Mo_stone hnx (((gi s 81 0) * x1) + x2) s) (fun y10 hy10 hs => ?_)
    refine w_istore_n (lv' := [(3, vi y10), (0, .ref 80), (1, vi x1), (2, vi x2)]) dX12_writeRow_63 rfl (Nat.le_of_ble_eq_true rfl) rfl ?_
    refine w_aload_n 1 dX12_writeRow_64 rfl rfl ?_
    refine w_iload_n 0 dX12_writeRow_65 rfl rfl ?_
    refine x_ifne hs dX12_writeRow_66 rfl (fun hs => ?_) (fun hs => ?_)
    · refine w_iload_n 0 dX12_writeRow_74 rfl rfl ?_
      refine x_iconst dX12_writeRow_75 ?_
      refine x_icmpne hs dX12_writeRow_76 rfl (fun hs => ?_) (fun hs => ?_)
      · refine x_bipush dX12_writeRow_84 (by decide) ?_
        refine w_lv (lv' := [(0, .ref 80), (1, vi x1), (2, vi x2)]) [1, 2, 3] rfl ?_
        exact q_Mo_writeRow_b86 hnx x1 x2 46 s hs hb he0
      · refine x_bipush dX12_writeRow_79 (by decide) ?_
        refine w_goto dX12_writeRow_81 rfl ?_
        refine w_lv (lv' := [(0, .ref 80), (1, vi x1), (2, vi x2)]) [1, 2, 3] rfl ?_
        exact q_Mo_writeRow_b86 hnx x1 x2 98 s hs hb he0
    · refine x_bipush dX12_writeRow_69 (by decide) ?_
      refine w_goto dX12_writeRow_71 rfl ?_
      refine w_lv (lv' := [(0, .ref 80), (1, vi x1), (2, vi x2)]) [1, 2, 3] rfl ?_
      exact q_Mo_writeRow_b86 hnx x1 x2 114 s hs hb he0
set_option maxRecDepth 100000 in
theorem q_Mo_writeRow_l39 {C : Cx} {nx : Nat} (hnx : 100 ≤ nx) (x1 : Int) (x2 : Int) (s : Sg) {o : Int × Sg} (hs : Mo_writeRow_l39 x1 x2 s = some o) : ww C M_X12_writeRow 1 0 0 nx (QI nx o.2 o.1) (XF) nx 0 0 39 [(0, .ref 80), (1, vi x1), (2, vi x2)] [] (hp nx s) := by
  unfold Mo_writeRow_l39 at hs
  refine bnd_e hs (fun s_13 hw hs => ?_)
  have hE : ww C M_X12_writeRow 1 0 0 nx (QI nx o.2 o.1) (XF) nx 0 0 95 [(0, .ref 80)] [] (hp nx s_13) := by
    refine w_aload_n 0 dX12_writeRow_95 rfl rfl ?_
    refine x_getI 12 35 dX12_writeRow_96 (fxX12_438 rfl) rfl rfl (lt_of hnx (Nat.le_of_ble_eq_true rfl)) ?_
    cases hs
    exact x_ireturn dX12_writeRow_99 rfl rfl (Nat.le_of_ble_eq_true rfl) (Nat.le_of_ble_eq_true rfl) ⟨rfl, rfl⟩
  refine whl_w (P := fun σ => ww C M_X12_writeRow 1 0 0 nx (QI nx o.2 o.1) (XF) nx 0 0 39 [(0, .ref 80), (1, vi x1), (2, vi σ.1)] [] (hp nx σ.2)) (E := fun ρ => ρ = s_13) hw rfl ?_
  intro σ o' hs' hb' he'
  exact q_Mo_writeRow_t39 hnx x1 σ.1 σ.2 hs' hb' (fun ρ e => by cases he' _ e; exact hE)
set_option maxRecDepth 100000 in
theorem q_Mo_writeRow_b24 {C : Cx} {nx : Nat} (hnx : 100 ≤ nx) (x1 : Int) (t1 : Int) (s : Sg) {o : Int × Sg} (hs : Mo_writeRow_b24 x1 t1 s = some o) : ww C M_X12_writeRow 1 0 0 nx (QI nx o.2 o.1) (XF) nx 0 0 24 [(0, .ref 80), (1, vi x1)] [vi t1, .ref 80] (hp nx s) := by
  unfold Mo_writeRow_b24 at hs
  refine x_V_B M_X12_wrong [vi t1] [] hs rfl dX12_writeRow_24 (lkX12_296 _ rfl) (lt_of hnx (Nat.le_of_ble_eq_true rfl)) rfl rfl (Nat.le_of_ble_eq_true rfl) (Nat.le_of_ble_eq_true rfl) (Nat.le_of_ble_eq_true rfl) (Nat.le_of_ble_eq_true rfl) (c_Mo_wrong hnx t1 s) (fun y5 s6 hy5 hs => ?_)
  refine x_ifeq hs dX12_writeRow_27 rfl (fun hs => ?_) (fun hs => ?_)
  · refine w_aload_n 0 dX12_writeRow_32 rfl rfl ?_
    refine x_iconst dX12_writeRow_33 ?_
    refine x_putI 12 35 dX12_writeRow_34 (poX12_438 rfl) rfl rfl (lt_of hnx (Nat.le_of_ble_eq_true rfl)) ?_
    refine nam_s hs (fun s7 hs => ?_)
    refine x_iconst dX12_writeRow_37 ?_
    refine w_istore_n (lv' := [(2, vi 0), (0, .ref 80), (1, vi x1)]) dX12_writeRow_38 rfl (Nat.le_of_ble_eq_true rfl) rfl ?_
    refine w_lv (lv' := [(0, .ref 80), (1, vi x1), (2, vi 0)]) [1, 2, 0] rfl ?_
    exact q_Mo_writeRow_l39 hnx x1 0 s7 hs
  · refine x_iconst dX12_writeRow_30 ?_
    cases hs
    exact x_ireturn dX12_writeRow_31 rfl rfl (Nat.le_of_ble_eq_true rfl) (Nat.le_of_ble_eq_true rfl) ⟨rfl, rfl⟩
set_option maxRecDepth 100000 in
theorem c_Mo_writeRow {C : Cx} {nx : Nat} (hnx : 100 ≤ nx) (x1 : Int) (s : Sg) : ∀ o, Mo_writeRow x1 s = some o → mm C M_X12_writeRow 1 0 0 nx nx [.ref 80, vi x1] (hp nx s) (QI nx o.2 o.1) (XF) := by
  intro o hs
  unfold Mo_writeRow at hs
  refine mm_of rfl rfl (Nat.le_of_ble_eq_true rfl) ?_
  show ww C M_X12_writeRow 1 0 0 nx (QI nx o.2 o.1) (XF) nx 0 0 0 [(0, .ref 80), (1, vi x1)] [] (hp nx s)
  refine w_aload_n 0 dX12_writeRow_0 rfl rfl ?_
  refine w_iload_n 1 dX12_writeRow_1 rfl rfl ?_
  refine grd_e hs (fun hg1 hs => ?_)
  refine x_i2l dX12_writeRow_2 hg1 ?_
  refine x_lconst (x := 0) dX12_writeRow_3 (by decide) ?_
  refine w_aload_n 0 dX12_writeRow_4 rfl rfl ?_
  refine x_getR 12 1 (b := 81) dX12_writeRow_5 (fxX12_9 rfl) rfl rfl (lt_of hnx (Nat.le_of_ble_eq_true rfl)) rfl ?_
  refine x_iconst dX12_writeRow_8 ?_
  refine grd_e hs (fun hg2 hs => ?_)
  refine x_iald ⟨by decide, by decide⟩ (Nat.le_of_ble_eq_true rfl) dX12_writeRow_9 (Or.inl ⟨rfl, (lt_of hnx (Nat.le_of_ble_eq_true rfl))⟩) ?_
  refine x_iconst dX12_writeRow_10 ?_
  refine x_isub dX12_writeRow_11 ?_
  refine grd_e hs (fun hg3 hs => ?_)
  refine x_i2l dX12_writeRow_12 hg3 ?_
  refine x_S_I M_X12_in [vl x1, vl 0, vl ((gi s 81 0) - 1)] [.ref 80] hs rfl dX12_writeRow_13 (lkX12_108 _ rfl) (Nat.le_of_ble_eq_true rfl) (Nat.le_of_ble_eq_true rfl) (Nat.le_of_ble_eq_true rfl) (Nat.le_of_ble_eq_true rfl) (c_Mo_in hnx x1 0 ((gi s 81 0) - 1) s) (fun y4 hy4 hs => ?_)
  refine x_ifne hs dX12_writeRow_16 rfl (fun hs => ?_) (fun hs => ?_)
  · refine x_iconst dX12_writeRow_23 ?_
    exact q_Mo_writeRow_b24 hnx x1 0 s hs
  · refine x_iconst dX12_writeRow_19 ?_
    refine w_goto dX12_writeRow_20 rfl ?_
    exact q_Mo_writeRow_b24 hnx x1 1 s hs
set_option maxRecDepth 100000 in
theorem c_Mo_writeCell {C : Cx} {nx : Nat} (hnx : 100 ≤ nx) (x1 : Int) (s : Sg) : ∀ o, Mo_writeCell x1 s = some o → mm C M_X12_writeCell 3 0 0 nx nx [.ref 80, vi x1] (hp nx s) (QI nx o.2 o.1) (XF) := by
  intro o hs
  unfold Mo_writeCell at hs
  refine mm_of rfl rfl (Nat.le_of_ble_eq_true rfl) ?_
  show ww C M_X12_writeCell 3 0 0 nx (QI nx o.2 o.1) (XF) nx 0 0 0 [(0, .ref 80), (1, vi x1)] [] (hp nx s)
  refine w_aload_n 0 dX12_writeCell_0 rfl rfl ?_
  refine w_iload_n 1 dX12_writeCell_1 rfl rfl ?_
  refine x_V_B M_X12_noCell [vi x1] [] hs rfl dX12_writeCell_2 (lkX12_308 _ rfl) (lt_of hnx (Nat.le_of_ble_eq_true rfl)) rfl rfl (Nat.le_of_ble_eq_true rfl) (Nat.le_of_ble_eq_true rfl) (Nat.le_of_ble_eq_true rfl) (Nat.le_of_ble_eq_true rfl) (c_Mo_noCell hnx x1 s) (fun y1 s2 hy1 hs => ?_)
  refine x_ifeq hs dX12_writeCell_5 rfl (fun hs => ?_) (fun hs => ?_)
  · refine w_aload_n 0 dX12_writeCell_10 rfl rfl ?_
    refine x_iconst dX12_writeCell_11 ?_
    refine x_putI 12 35 dX12_writeCell_12 (poX12_438 rfl) rfl rfl (lt_of hnx (Nat.le_of_ble_eq_true rfl)) ?_
    refine nam_s hs (fun s3 hs => ?_)
    refine w_aload_n 0 dX12_writeCell_15 rfl rfl ?_
    refine x_bipush dX12_writeCell_16 (by decide) ?_
    refine w_aload_n 0 dX12_writeCell_18 rfl rfl ?_
    refine w_iload_n 1 dX12_writeCell_19 rfl rfl ?_
    refine x_V_I M_X12_column [vi x1] [vi 97, .ref 80] hs rfl dX12_writeCell_20 (lkX12_206 _ rfl) (lt_of hnx (Nat.le_of_ble_eq_true rfl)) rfl rfl (Nat.le_of_ble_eq_true rfl) (Nat.le_of_ble_eq_true rfl) (Nat.le_of_ble_eq_true rfl) (Nat.le_of_ble_eq_true rfl) (c_Mo_column hnx x1 s3) (fun y4 hy4 hs => ?_)
    refine x_iadd dX12_writeCell_23 ?_
    refine x_V_V M_X12_says [vi (97 + y4)] [] hs rfl dX12_writeCell_24 (lkX12_441 _ rfl) (lt_of hnx (Nat.le_of_ble_eq_true rfl)) rfl rfl (Nat.le_of_ble_eq_true rfl) (Nat.le_of_ble_eq_true rfl) (Nat.le_of_ble_eq_true rfl) (Nat.le_of_ble_eq_true rfl) (c_Mo_says hnx (97 + y4) s3) (fun s6 hs6 hs => ?_)
    refine w_aload_n 0 dX12_writeCell_27 rfl rfl ?_
    refine x_bipush dX12_writeCell_28 (by decide) ?_
    refine w_aload_n 0 dX12_writeCell_30 rfl rfl ?_
    refine w_iload_n 1 dX12_writeCell_31 rfl rfl ?_
    refine x_V_I M_X12_row [vi x1] [vi 49, .ref 80] hs rfl dX12_writeCell_32 (lkX12_209 _ rfl) (lt_of hnx (Nat.le_of_ble_eq_true rfl)) rfl rfl (Nat.le_of_ble_eq_true rfl) (Nat.le_of_ble_eq_true rfl) (Nat.le_of_ble_eq_true rfl) (Nat.le_of_ble_eq_true rfl) (c_Mo_row hnx x1 s6) (fun y7 hy7 hs => ?_)
    refine x_iadd dX12_writeCell_35 ?_
    refine x_V_V M_X12_says [vi (49 + y7)] [] hs rfl dX12_writeCell_36 (lkX12_441 _ rfl) (lt_of hnx (Nat.le_of_ble_eq_true rfl)) rfl rfl (Nat.le_of_ble_eq_true rfl) (Nat.le_of_ble_eq_true rfl) (Nat.le_of_ble_eq_true rfl) (Nat.le_of_ble_eq_true rfl) (c_Mo_says hnx (49 + y7) s6) (fun s9 hs9 hs => ?_)
    refine w_aload_n 0 dX12_writeCell_39 rfl rfl ?_
    refine x_getI 12 35 dX12_writeCell_40 (fxX12_438 rfl) rfl rfl (lt_of hnx (Nat.le_of_ble_eq_true rfl)) ?_
    cases hs
    exact x_ireturn dX12_writeCell_43 rfl rfl (Nat.le_of_ble_eq_true rfl) (Nat.le_of_ble_eq_true rfl) ⟨rfl, rfl⟩
  · refine x_iconst dX12_writeCell_8 ?_
    cases hs
    exact x_ireturn dX12_writeCell_9 rfl rfl (Nat.le_of_ble_eq_true rfl) (Nat.le_of_ble_eq_true rfl) ⟨rfl, rfl⟩
set_option maxRecDepth 100000 in
theorem c_Mo_outputByte {C : Cx} {nx : Nat} (hnx : 100 ≤ nx) (x1 : Int) (s : Sg) : ∀ o, Mo_outputByte x1 s = some o → mm C M_X12_outputByte 1 0 0 nx nx [.ref 80, vi x1] (hp nx s) (QI nx o.2 o.1) (XF) := by
  intro o hs
  unfold Mo_outputByte at hs
  refine mm_of rfl rfl (Nat.le_of_ble_eq_true rfl) ?_
  show ww C M_X12_outputByte 1 0 0 nx (QI nx o.2 o.1) (XF) nx 0 0 0 [(0, .ref 80), (1, vi x1)] [] (hp nx s)
  refine w_aload_n 0 dX12_outputByte_0 rfl rfl ?_
  refine x_iconst dX12_outputByte_1 ?_
  refine x_putI 12 0 dX12_outputByte_2 (poX12_77 rfl) rfl rfl (lt_of hnx (Nat.le_of_ble_eq_true rfl)) ?_
  refine nam_s hs (fun s1 hs => ?_)
  refine w_iload_n 1 dX12_outputByte_5 rfl rfl ?_
  refine grd_e hs (fun hg2 hs => ?_)
  refine x_i2l dX12_outputByte_6 hg2 ?_
  refine x_lconst (x := 0) dX12_outputByte_7 (by decide) ?_
  refine w_aload_n 0 dX12_outputByte_8 rfl rfl ?_
  refine x_getI 12 35 dX12_outputByte_9 (fxX12_438 rfl) rfl rfl (lt_of hnx (Nat.le_of_ble_eq_true rfl)) ?_
  refine x_iconst dX12_outputByte_12 ?_
  refine x_isub dX12_outputByte_13 ?_
  refine grd_e hs (fun hg3 hs => ?_)
  refine x_i2l dX12_outputByte_14 hg3 ?_
  refine x_S_I M_X12_in [vl x1, vl 0, vl ((gi s1 80 35) - 1)] [] hs rfl dX12_outputByte_15 (lkX12_108 _ rfl) (Nat.le_of_ble_eq_true rfl) (Nat.le_of_ble_eq_true rfl) (Nat.le_of_ble_eq_true rfl) (Nat.le_of_ble_eq_true rfl) (c_Mo_in hnx x1 0 ((gi s1 80 35) - 1) s1) (fun y4 hy4 hs => ?_)
  refine x_ifeq hs dX12_outputByte_18 rfl (fun hs => ?_) (fun hs => ?_)
  · refine x_iconst dX12_outputByte_30 ?_
    cases hs
    exact x_ireturn dX12_outputByte_31 rfl rfl (Nat.le_of_ble_eq_true rfl) (Nat.le_of_ble_eq_true rfl) ⟨rfl, rfl⟩
  · refine w_aload_n 0 dX12_outputByte_21 rfl rfl ?_
    refine x_getR 12 34 (b := 99) dX12_outputByte_22 (fxX12_70 rfl) rfl rfl (lt_of hnx (Nat.le_of_ble_eq_true rfl)) rfl ?_
    refine w_iload_n 1 dX12_outputByte_25 rfl rfl ?_
    refine grd_e hs (fun hg5 hs => ?_)
    refine x_iald hg5 (Nat.le_of_ble_eq_true rfl) dX12_outputByte_26 (Or.inl ⟨rfl, (lt_of hnx (Nat.le_of_ble_eq_true rfl))⟩) ?_
    refine w_goto dX12_outputByte_27 rfl ?_
    cases hs
    exact x_ireturn dX12_outputByte_31 rfl rfl (Nat.le_of_ble_eq_true rfl) (Nat.le_of_ble_eq_true rfl) ⟨rfl, rfl⟩
set_option maxRecDepth 100000 in
theorem q_Mo_undo_t26 {C : Cx} {nx : Nat} (hnx : 100 ≤ nx) {Qr : Option Value → Hp → Prop} {Qx : String → Hp → Prop}  (x1 : Int) (s : Sg) {o : ((Int × Sg) ⊕ (Sg))} (hs : Mo_undo_t26 x1 s = some o) (hb : ∀ σ : Int × Sg, o = .inl σ → ww C M_X12_undo 0 0 0 nx (Qr) (Qx) nx 0 0 26 [(0, .ref 80), (1, vi σ.1)] [] (hp nx σ.2)) (he0 : ∀ ρ : Sg, o = .inr ρ → ww C M_X12_undo 0 0 0 nx (Qr) (Qx) nx 0 0 60 [(0, .ref 80)] [] (hp nx ρ)) : ww C M_X12_undo 0 0 0 nx (Qr) (Qx) nx 0 0 26 [(0, .ref 80), (1, vi x1)] [] (hp nx s) := by
  unfold Mo_undo_t26 at hs
  refine w_iload_n 1 dX12_undo_26 rfl rfl ?_
  refine x_sipush dX12_undo_27 (by decide) ?_
  refine x_icmpge hs dX12_undo_30 rfl (fun hs => ?_) (fun hs => ?_)
  · refine w_lv (lv' := [(0, .ref 80)]) [0] rfl ?_
    cases hs
    exact he0 _ rfl
  · refine w_aload_n 0 dX12_undo_33 rfl rfl ?_
    refine x_getR 12 1 (b := 81) dX12_undo_34 (fxX12_9 rfl) rfl rfl (lt_of hnx (Nat.le_of_ble_eq_true rfl)) rfl ?_
    refine w_iload_n 1 dX12_undo_37 rfl rfl ?_
    refine w_aload_n 0 dX12_undo_38 rfl rfl ?_
    refine x_getR 12 5 (b := 85) dX12_undo_39 (fxX12_23 rfl) rfl rfl (lt_of hnx (Nat.le_of_ble_eq_true rfl)) rfl ?_
    refine x_sipush dX12_undo_42 (by decide) ?_
    refine w_aload_n 0 dX12_undo_45 rfl rfl ?_
    refine x_getI 12 6 dX12_undo_46 (fxX12_80 rfl) rfl rfl (lt_of hnx (Nat.le_of_ble_eq_true rfl)) ?_
    refine x_imul dX12_undo_49 ?_
    refine w_iload_n 1 dX12_undo_50 rfl rfl ?_
    refine x_iadd dX12_undo_51 ?_
    refine grd_e hs (fun hg3 hs => ?_)
    refine x_iald hg3 (Nat.le_of_ble_eq_true rfl) dX12_undo_52 (Or.inl ⟨rfl, (lt_of hnx (Nat.le_of_ble_eq_true rfl))⟩) ?_
    refine grd_e hs (fun hg4 hs => ?_)
    refine x_iast hg4 (Nat.le_of_ble_eq_true rfl) dX12_undo_53 rfl (lt_of hnx (Nat.le_of_ble_eq_true rfl)) ?_
    refine nam_s hs (fun s5 hs => ?_)
    refine x_iinc (lv' := [(1, vi (x1 + 1)), (0, .ref 80)]) 1 dX12_undo_54 rfl (Nat.le_of_ble_eq_true rfl) rfl ?_
    refine w_goto dX12_undo_57 rfl ?_
    refine w_lv (lv' := [(0, .ref 80), (1, vi (x1 + 1))]) [1, 0] rfl ?_
    cases hs
    exact hb _ rfl
set_option maxRecDepth 100000 in
theorem q_Mo_undo_l26 {C : Cx} {nx : Nat} (hnx : 100 ≤ nx) (x1 : Int) (s : Sg) {o : Int × Sg} (hs : Mo_undo_l26 x1 s = some o) : ww C M_X12_undo 0 0 0 nx (QI nx o.2 o.1) (XF) nx 0 0 26 [(0, .ref 80), (1, vi x1)] [] (hp nx s) := by
  unfold Mo_undo_l26 at hs
  refine bnd_e hs (fun s_6 hw hs => ?_)
  have hE : ww C M_X12_undo 0 0 0 nx (QI nx o.2 o.1) (XF) nx 0 0 60 [(0, .ref 80)] [] (hp nx s_6) := by
    refine w_aload_n 0 dX12_undo_60 rfl rfl ?_
    refine x_getI 12 6 dX12_undo_61 (fxX12_80 rfl) rfl rfl (lt_of hnx (Nat.le_of_ble_eq_true rfl)) ?_
    cases hs
    exact x_ireturn dX12_undo_64 rfl rfl (Nat.le_of_ble_eq_true rfl) (Nat.le_of_ble_eq_true rfl) ⟨rfl, rfl⟩
  refine whl_w (P := fun σ => ww C M_X12_undo 0 0 0 nx (QI nx o.2 o.1) (XF) nx 0 0 26 [(0, .ref 80), (1, vi σ.1)] [] (hp nx σ.2)) (E := fun ρ => ρ = s_6) hw rfl ?_
  intro σ o' hs' hb' he'
  exact q_Mo_undo_t26 hnx σ.1 σ.2 hs' hb' (fun ρ e => by cases he' _ e; exact hE)
set_option maxRecDepth 100000 in
theorem c_Mo_undo {C : Cx} {nx : Nat} (hnx : 100 ≤ nx)  (s : Sg) : ∀ o, Mo_undo  s = some o → mm C M_X12_undo 0 0 0 nx nx [.ref 80] (hp nx s) (QI nx o.2 o.1) (XF) := by
  intro o hs
  unfold Mo_undo at hs
  refine mm_of rfl rfl (Nat.le_of_ble_eq_true rfl) ?_
  show ww C M_X12_undo 0 0 0 nx (QI nx o.2 o.1) (XF) nx 0 0 0 [(0, .ref 80)] [] (hp nx s)
  refine w_aload_n 0 dX12_undo_0 rfl rfl ?_
  refine x_iconst dX12_undo_1 ?_
  refine x_putI 12 0 dX12_undo_2 (poX12_77 rfl) rfl rfl (lt_of hnx (Nat.le_of_ble_eq_true rfl)) ?_
  refine nam_s hs (fun s1 hs => ?_)
  refine w_aload_n 0 dX12_undo_5 rfl rfl ?_
  refine x_getI 12 6 dX12_undo_6 (fxX12_80 rfl) rfl rfl (lt_of hnx (Nat.le_of_ble_eq_true rfl)) ?_
  refine x_ifne hs dX12_undo_9 rfl (fun hs => ?_) (fun hs => ?_)
  · refine w_aload_n 0 dX12_undo_14 rfl rfl ?_
    refine w_dup dX12_undo_15 rfl ?_
    refine x_getI 12 6 dX12_undo_16 (fxX12_80 rfl) rfl rfl (lt_of hnx (Nat.le_of_ble_eq_true rfl)) ?_
    refine x_iconst dX12_undo_19 ?_
    refine x_isub dX12_undo_20 ?_
    refine x_putI 12 6 dX12_undo_21 (poX12_80 rfl) rfl rfl (lt_of hnx (Nat.le_of_ble_eq_true rfl)) ?_
    refine nam_s hs (fun s2 hs => ?_)
    refine x_iconst dX12_undo_24 ?_
    refine w_istore_n (lv' := [(1, vi 0), (0, .ref 80)]) dX12_undo_25 rfl (Nat.le_of_ble_eq_true rfl) rfl ?_
    refine w_lv (lv' := [(0, .ref 80), (1, vi 0)]) [1, 0] rfl ?_
    exact q_Mo_undo_l26 hnx 0 s2 hs
  · refine x_iconst dX12_undo_12 ?_
    cases hs
    exact x_ireturn dX12_undo_13 rfl rfl (Nat.le_of_ble_eq_true rfl) (Nat.le_of_ble_eq_true rfl) ⟨rfl, rfl⟩
set_option maxRecDepth 100000 in
theorem q_Mo_saveSnapshot_t26 {C : Cx} {nx : Nat} (hnx : 100 ≤ nx) {Qr : Option Value → Hp → Prop} {Qx : String → Hp → Prop}  (x1 : Int) (x2 : Int) (s : Sg) {o : ((Int × Sg) ⊕ (Sg))} (hs : Mo_saveSnapshot_t26 x1 x2 s = some o) (hb : ∀ σ : Int × Sg, o = .inl σ → ww C M_X12_saveSnapshot 2 0 0 nx (Qr) (Qx) nx 0 0 26 [(0, .ref 80), (1, vi x1), (2, vi σ.1)] [] (hp nx σ.2)) (he0 : ∀ ρ : Sg, o = .inr ρ → ww C M_X12_saveSnapshot 2 0 0 nx (Qr) (Qx) nx 0 0 57 [(0, .ref 80), (1, vi x1)] [] (hp nx ρ)) : ww C M_X12_saveSnapshot 2 0 0 nx (Qr) (Qx) nx 0 0 26 [(0, .ref 80), (1, vi x1), (2, vi x2)] [] (hp nx s) := by
  unfold Mo_saveSnapshot_t26 at hs
  refine w_iload_n 2 dX12_saveSnapshot_26 rfl rfl ?_
  refine x_sipush dX12_saveSnapshot_27 (by decide) ?_
  refine x_icmpge hs dX12_saveSnapshot_30 rfl (fun hs => ?_) (fun hs => ?_)
  · refine w_lv (lv' := [(0, .ref 80), (1, vi x1)]) [0, 1] rfl ?_
    cases hs
    exact he0 _ rfl
  · refine w_aload_n 0 dX12_saveSnapshot_33 rfl rfl ?_
    refine x_getR 12 3 (b := 83) dX12_saveSnapshot_34 (fxX12_16 rfl) rfl rfl (lt_of hnx (Nat.le_of_ble_eq_true rfl)) rfl ?_
    refine x_sipush dX12_saveSnapshot_37 (by decide) ?_
    refine w_iload_n 1 dX12_saveSnapshot_40 rfl rfl ?_
    refine x_imul dX12_saveSnapshot_41 ?_
    refine w_iload_n 2 dX12_saveSnapshot_42 rfl rfl ?_
    refine x_iadd dX12_saveSnapshot_43 ?_
    refine w_aload_n 0 dX12_saveSnapshot_44 rfl rfl ?_
    refine x_getR 12 1 (b := 81) dX12_saveSnapshot_45 (fxX12_9 rfl) rfl rfl (lt_of hnx (Nat.le_of_ble_eq_true rfl)) rfl ?_
    refine w_iload_n 2 dX12_saveSnapshot_48 rfl rfl ?_
    refine grd_e hs (fun hg5 hs => ?_)
    refine x_iald hg5 (Nat.le_of_ble_eq_true rfl) dX12_saveSnapshot_49 (Or.inl ⟨rfl, (lt_of hnx (Nat.le_of_ble_eq_true rfl))⟩) ?_
    refine grd_e hs (fun hg6 hs => ?_)
    refine x_iast hg6 (Nat.le_of_ble_eq_true rfl) dX12_saveSnapshot_50 rfl (lt_of hnx (Nat.le_of_ble_eq_true rfl)) ?_
    refine nam_s hs (fun s7 hs => ?_)
    refine x_iinc (lv' := [(2, vi (x2 + 1)), (0, .ref 80), (1, vi x1)]) 2 dX12_saveSnapshot_51 rfl (Nat.le_of_ble_eq_true rfl) rfl ?_
    refine w_goto dX12_saveSnapshot_54 rfl ?_
    refine w_lv (lv' := [(0, .ref 80), (1, vi x1), (2, vi (x2 + 1))]) [1, 2, 0] rfl ?_
    cases hs
    exact hb _ rfl
set_option maxRecDepth 100000 in
theorem q_Mo_saveSnapshot_l26 {C : Cx} {nx : Nat} (hnx : 100 ≤ nx) (x1 : Int) (x2 : Int) (s : Sg) {o : Int × Sg} (hs : Mo_saveSnapshot_l26 x1 x2 s = some o) : ww C M_X12_saveSnapshot 2 0 0 nx (QI nx o.2 o.1) (XF) nx 0 0 26 [(0, .ref 80), (1, vi x1), (2, vi x2)] [] (hp nx s) := by
  unfold Mo_saveSnapshot_l26 at hs
  refine bnd_e hs (fun s_8 hw hs => ?_)
  have hE : ww C M_X12_saveSnapshot 2 0 0 nx (QI nx o.2 o.1) (XF) nx 0 0 57 [(0, .ref 80), (1, vi x1)] [] (hp nx s_8) := by
    refine w_aload_n 0 dX12_saveSnapshot_57 rfl rfl ?_
    refine x_getR 12 4 (b := 84) dX12_saveSnapshot_58 (fxX12_19 rfl) rfl rfl (lt_of hnx (Nat.le_of_ble_eq_true rfl)) rfl ?_
    refine w_iload_n 1 dX12_saveSnapshot_61 rfl rfl ?_
    refine x_iconst dX12_saveSnapshot_62 ?_
    refine grd_e hs (fun hg9 hs => ?_)
    refine x_zast (Or.inr rfl) hg9 (Nat.le_of_ble_eq_true rfl) dX12_saveSnapshot_63 rfl (lt_of hnx (Nat.le_of_ble_eq_true rfl)) ?_
    refine nam_s hs (fun s10 hs => ?_)
    refine w_aload_n 0 dX12_saveSnapshot_64 rfl rfl ?_
    refine x_iconst dX12_saveSnapshot_65 ?_
    refine x_V_I M_X12_stonesOf [vi (-1)] [] hs rfl dX12_saveSnapshot_66 (lkX12_291 _ rfl) (lt_of hnx (Nat.le_of_ble_eq_true rfl)) rfl rfl (Nat.le_of_ble_eq_true rfl) (Nat.le_of_ble_eq_true rfl) (Nat.le_of_ble_eq_true rfl) (Nat.le_of_ble_eq_true rfl) (c_Mo_stonesOf hnx (-1) s10) (fun y11 hy11 hs => ?_)
    cases hs
    exact x_ireturn dX12_saveSnapshot_69 rfl rfl (Nat.le_of_ble_eq_true rfl) (Nat.le_of_ble_eq_true rfl) ⟨rfl, rfl⟩
  refine whl_w (P := fun σ => ww C M_X12_saveSnapshot 2 0 0 nx (QI nx o.2 o.1) (XF) nx 0 0 26 [(0, .ref 80), (1, vi x1), (2, vi σ.1)] [] (hp nx σ.2)) (E := fun ρ => ρ = s_8) hw rfl ?_
  intro σ o' hs' hb' he'
  exact q_Mo_saveSnapshot_t26 hnx x1 σ.1 σ.2 hs' hb' (fun ρ e => by cases he' _ e; exact hE)
set_option maxRecDepth 100000 in
theorem q_Mo_saveSnapshot_b16 {C : Cx} {nx : Nat} (hnx : 100 ≤ nx) (x1 : Int) (t1 : Int) (s : Sg) {o : Int × Sg} (hs : Mo_saveSnapshot_b16 x1 t1 s = some o) : ww C M_X12_saveSnapshot 2 0 0 nx (QI nx o.2 o.1) (XF) nx 0 0 16 [(0, .ref 80), (1, vi x1)] [vi t1, .ref 80] (hp nx s) := by
  unfold Mo_saveSnapshot_b16 at hs
  refine x_V_B M_X12_wrong [vi t1] [] hs rfl dX12_saveSnapshot_16 (lkX12_296 _ rfl) (lt_of hnx (Nat.le_of_ble_eq_true rfl)) rfl rfl (Nat.le_of_ble_eq_true rfl) (Nat.le_of_ble_eq_true rfl) (Nat.le_of_ble_eq_true rfl) (Nat.le_of_ble_eq_true rfl) (c_Mo_wrong hnx t1 s) (fun y3 s4 hy3 hs => ?_)
  refine x_ifeq hs dX12_saveSnapshot_19 rfl (fun hs => ?_) (fun hs => ?_)
  · refine x_iconst dX12_saveSnapshot_24 ?_
    refine w_istore_n (lv' := [(2, vi 0), (0, .ref 80), (1, vi x1)]) dX12_saveSnapshot_25 rfl (Nat.le_of_ble_eq_true rfl) rfl ?_
    refine w_lv (lv' := [(0, .ref 80), (1, vi x1), (2, vi 0)]) [1, 2, 0] rfl ?_
    exact q_Mo_saveSnapshot_l26 hnx x1 0 s4 hs
  · refine x_iconst dX12_saveSnapshot_22 ?_
    cases hs
    exact x_ireturn dX12_saveSnapshot_23 rfl rfl (Nat.le_of_ble_eq_true rfl) (Nat.le_of_ble_eq_true rfl) ⟨rfl, rfl⟩
set_option maxRecDepth 100000 in
theorem c_Mo_saveSnapshot {C : Cx} {nx : Nat} (hnx : 100 ≤ nx) (x1 : Int) (s : Sg) : ∀ o, Mo_saveSnapshot x1 s = some o → mm C M_X12_saveSnapshot 2 0 0 nx nx [.ref 80, vi x1] (hp nx s) (QI nx o.2 o.1) (XF) := by
  intro o hs
  unfold Mo_saveSnapshot at hs
  refine mm_of rfl rfl (Nat.le_of_ble_eq_true rfl) ?_
  show ww C M_X12_saveSnapshot 2 0 0 nx (QI nx o.2 o.1) (XF) nx 0 0 0 [(0, .ref 80), (1, vi x1)] [] (hp nx s)
  refine w_aload_n 0 dX12_saveSnapshot_0 rfl rfl ?_
  refine w_iload_n 1 dX12_saveSnapshot_1 rfl rfl ?_
  refine grd_e hs (fun hg1 hs => ?_)
  refine x_i2l dX12_saveSnapshot_2 hg1 ?_
  refine x_lconst (x := 0) dX12_saveSnapshot_3 (by decide) ?_
  refine x_lconst (x := 1) dX12_saveSnapshot_4 (by decide) ?_
  refine x_S_I M_X12_in [vl x1, vl 0, vl 1] [.ref 80] hs rfl dX12_saveSnapshot_5 (lkX12_108 _ rfl) (Nat.le_of_ble_eq_true rfl) (Nat.le_of_ble_eq_true rfl) (Nat.le_of_ble_eq_true rfl) (Nat.le_of_ble_eq_true rfl) (c_Mo_in hnx x1 0 1 s) (fun y2 hy2 hs => ?_)
  refine x_ifne hs dX12_saveSnapshot_8 rfl (fun hs => ?_) (fun hs => ?_)
  · refine x_iconst dX12_saveSnapshot_15 ?_
    exact q_Mo_saveSnapshot_b16 hnx x1 0 s hs
  · refine x_iconst dX12_saveSnapshot_11 ?_
    refine w_goto dX12_saveSnapshot_12 rfl ?_
    exact q_Mo_saveSnapshot_b16 hnx x1 1 s hs
set_option maxRecDepth 100000 in
theorem q_Mo_restoreSnapshot_t37 {C : Cx} {nx : Nat} (hnx : 100 ≤ nx) {Qr : Option Value → Hp → Prop} {Qx : String → Hp → Prop}  (x1 : Int) (x2 : Int) (s : Sg) {o : ((Int × Sg) ⊕ (Sg))} (hs : Mo_restoreSnapshot_t37 x1 x2 s = some o) (hb : ∀ σ : Int × Sg, o = .inl σ → ww C M_X12_restoreSnapshot 2 0 0 nx (Qr) (Qx) nx 0 0 37 [(0, .ref 80), (1, vi x1), (2, vi σ.1)] [] (hp nx σ.2)) (he0 : ∀ ρ : Sg, o = .inr ρ → ww C M_X12_restoreSnapshot 2 0 0 nx (Qr) (Qx) nx 0 0 68 [(0, .ref 80)] [] (hp nx ρ)) : ww C M_X12_restoreSnapshot 2 0 0 nx (Qr) (Qx) nx 0 0 37 [(0, .ref 80), (1, vi x1), (2, vi x2)] [] (hp nx s) := by
  unfold Mo_restoreSnapshot_t37 at hs
  refine w_iload_n 2 dX12_restoreSnapshot_37 rfl rfl ?_
  refine x_sipush dX12_restoreSnapshot_38 (by decide) ?_
  refine x_icmpge hs dX12_restoreSnapshot_41 rfl (fun hs => ?_) (fun hs => ?_)
  · refine w_lv (lv' := [(0, .ref 80)]) [0] rfl ?_
    cases hs
    exact he0 _ rfl
  · refine w_aload_n 0 dX12_restoreSnapshot_44 rfl rfl ?_
    refine x_getR 12 1 (b := 81) dX12_restoreSnapshot_45 (fxX12_9 rfl) rfl rfl (lt_of hnx (Nat.le_of_ble_eq_true rfl)) rfl ?_
    refine w_iload_n 2 dX12_restoreSnapshot_48 rfl rfl ?_
    refine w_aload_n 0 dX12_restoreSnapshot_49 rfl rfl ?_
    refine x_getR 12 3 (b := 83) dX12_restoreSnapshot_50 (fxX12_16 rfl) rfl rfl (lt_of hnx (Nat.le_of_ble_eq_true rfl)) rfl ?_
    refine x_sipush dX12_restoreSnapshot_53 (by decide) ?_
    refine w_iload_n 1 dX12_restoreSnapshot_56 rfl rfl ?_
    refine x_imul dX12_restoreSnapshot_57 ?_
    refine w_iload_n 2 dX12_restoreSnapshot_58 rfl rfl ?_
    refine x_iadd dX12_restoreSnapshot_59 ?_
    refine grd_e hs (fun hg6 hs => ?_)
    refine x_iald hg6 (Nat.le_of_ble_eq_true rfl) dX12_restoreSnapshot_60 (Or.inl ⟨rfl, (lt_of hnx (Nat.le_of_ble_eq_true rfl))⟩) ?_
    refine grd_e hs (fun hg7 hs => ?_)
    refine x_iast hg7 (Nat.le_of_ble_eq_true rfl) dX12_restoreSnapshot_61 rfl (lt_of hnx (Nat.le_of_ble_eq_true rfl)) ?_
    refine nam_s hs (fun s8 hs => ?_)
    refine x_iinc (lv' := [(2, vi (x2 + 1)), (0, .ref 80), (1, vi x1)]) 2 dX12_restoreSnapshot_62 rfl (Nat.le_of_ble_eq_true rfl) rfl ?_
    refine w_goto dX12_restoreSnapshot_65 rfl ?_
    refine w_lv (lv' := [(0, .ref 80), (1, vi x1), (2, vi (x2 + 1))]) [1, 2, 0] rfl ?_
    cases hs
    exact hb _ rfl
set_option maxRecDepth 100000 in
theorem q_Mo_restoreSnapshot_l37 {C : Cx} {nx : Nat} (hnx : 100 ≤ nx) (x1 : Int) (x2 : Int) (s : Sg) {o : Int × Sg} (hs : Mo_restoreSnapshot_l37 x1 x2 s = some o) : ww C M_X12_restoreSnapshot 2 0 0 nx (QI nx o.2 o.1) (XF) nx 0 0 37 [(0, .ref 80), (1, vi x1), (2, vi x2)] [] (hp nx s) := by
  unfold Mo_restoreSnapshot_l37 at hs
  refine bnd_e hs (fun s_9 hw hs => ?_)
  have hE : ww C M_X12_restoreSnapshot 2 0 0 nx (QI nx o.2 o.1) (XF) nx 0 0 68 [(0, .ref 80)] [] (hp nx s_9) := by
    refine w_aload_n 0 dX12_restoreSnapshot_68 rfl rfl ?_
    refine x_iconst dX12_restoreSnapshot_69 ?_
    refine x_putI 12 6 dX12_restoreSnapshot_70 (poX12_80 rfl) rfl rfl (lt_of hnx (Nat.le_of_ble_eq_true rfl)) ?_
    refine nam_s hs (fun s10 hs => ?_)
    refine w_aload_n 0 dX12_restoreSnapshot_73 rfl rfl ?_
    refine x_iconst dX12_restoreSnapshot_74 ?_
    refine x_V_I M_X12_stonesOf [vi (-1)] [] hs rfl dX12_restoreSnapshot_75 (lkX12_291 _ rfl) (lt_of hnx (Nat.le_of_ble_eq_true rfl)) rfl rfl (Nat.le_of_ble_eq_true rfl) (Nat.le_of_ble_eq_true rfl) (Nat.le_of_ble_eq_true rfl) (Nat.le_of_ble_eq_true rfl) (c_Mo_stonesOf hnx (-1) s10) (fun y11 hy11 hs => ?_)
    cases hs
    exact x_ireturn dX12_restoreSnapshot_78 rfl rfl (Nat.le_of_ble_eq_true rfl) (Nat.le_of_ble_eq_true rfl) ⟨rfl, rfl⟩
  refine whl_w (P := fun σ => ww C M_X12_restoreSnapshot 2 0 0 nx (QI nx o.2 o.1) (XF) nx 0 0 37 [(0, .ref 80), (1, vi x1), (2, vi σ.1)] [] (hp nx σ.2)) (E := fun ρ => ρ = s_9) hw rfl ?_
  intro σ o' hs' hb' he'
  exact q_Mo_restoreSnapshot_t37 hnx x1 σ.1 σ.2 hs' hb' (fun ρ e => by cases he' _ e; exact hE)
set_option maxRecDepth 100000 in
theorem q_Mo_restoreSnapshot_b16 {C : Cx} {nx : Nat} (hnx : 100 ≤ nx) (x1 : Int) (t1 : Int) (s : Sg) {o : Int × Sg} (hs : Mo_restoreSnapshot_b16 x1 t1 s = some o) : ww C M_X12_restoreSnapshot 2 0 0 nx (QI nx o.2 o.1) (XF) nx 0 0 16 [(0, .ref 80), (1, vi x1)] [vi t1, .ref 80] (hp nx s) := by
  unfold Mo_restoreSnapshot_b16 at hs
  refine x_V_B M_X12_wrong [vi t1] [] hs rfl dX12_restoreSnapshot_16 (lkX12_296 _ rfl) (lt_of hnx (Nat.le_of_ble_eq_true rfl)) rfl rfl (Nat.le_of_ble_eq_true rfl) (Nat.le_of_ble_eq_true rfl) (Nat.le_of_ble_eq_true rfl) (Nat.le_of_ble_eq_true rfl) (c_Mo_wrong hnx t1 s) (fun y3 s4 hy3 hs => ?_)
  refine x_ifeq hs dX12_restoreSnapshot_19 rfl (fun hs => ?_) (fun hs => ?_)
  · refine w_aload_n 0 dX12_restoreSnapshot_24 rfl rfl ?_
    refine x_getR 12 4 (b := 84) dX12_restoreSnapshot_25 (fxX12_19 rfl) rfl rfl (lt_of hnx (Nat.le_of_ble_eq_true rfl)) rfl ?_
    refine w_iload_n 1 dX12_restoreSnapshot_28 rfl rfl ?_
    refine grd_e hs (fun hg5 hs => ?_)
    refine x_zald hg5 (Nat.le_of_ble_eq_true rfl) dX12_restoreSnapshot_29 rfl (lt_of hnx (Nat.le_of_ble_eq_true rfl)) ?_
    refine x_ifne hs dX12_restoreSnapshot_30 rfl (fun hs => ?_) (fun hs => ?_)
    · refine x_iconst dX12_restoreSnapshot_35 ?_
      refine w_istore_n (lv' := [(2, vi 0), (0, .ref 80), (1, vi x1)]) dX12_restoreSnapshot_36 rfl (Nat.le_of_ble_eq_true rfl) rfl ?_
      refine w_lv (lv' := [(0, .ref 80), (1, vi x1), (2, vi 0)]) [1, 2, 0] rfl ?_
      exact q_Mo_restoreSnapshot_l37 hnx x1 0 s4 hs
    · refine x_iconst dX12_restoreSnapshot_33 ?_
      cases hs
      exact x_ireturn dX12_restoreSnapshot_34 rfl rfl (Nat.le_of_ble_eq_true rfl) (Nat.le_of_ble_eq_true rfl) ⟨rfl, rfl⟩
  · refine x_iconst dX12_restoreSnapshot_22 ?_
    cases hs
    exact x_ireturn dX12_restoreSnapshot_23 rfl rfl (Nat.le_of_ble_eq_true rfl) (Nat.le_of_ble_eq_true rfl) ⟨rfl, rfl⟩
set_option maxRecDepth 100000 in
theorem c_Mo_restoreSnapshot {C : Cx} {nx : Nat} (hnx : 100 ≤ nx) (x1 : Int) (s : Sg) : ∀ o, Mo_restoreSnapshot x1 s = some o → mm C M_X12_restoreSnapshot 2 0 0 nx nx [.ref 80, vi x1] (hp nx s) (QI nx o.2 o.1) (XF) := by
  intro o hs
  unfold Mo_restoreSnapshot at hs
  refine mm_of rfl rfl (Nat.le_of_ble_eq_true rfl) ?_
  show ww C M_X12_restoreSnapshot 2 0 0 nx (QI nx o.2 o.1) (XF) nx 0 0 0 [(0, .ref 80), (1, vi x1)] [] (hp nx s)
  refine w_aload_n 0 dX12_restoreSnapshot_0 rfl rfl ?_
  refine w_iload_n 1 dX12_restoreSnapshot_1 rfl rfl ?_
  refine grd_e hs (fun hg1 hs => ?_)
  refine x_i2l dX12_restoreSnapshot_2 hg1 ?_
  refine x_lconst (x := 0) dX12_restoreSnapshot_3 (by decide) ?_
  refine x_lconst (x := 1) dX12_restoreSnapshot_4 (by decide) ?_
  refine x_S_I M_X12_in [vl x1, vl 0, vl 1] [.ref 80] hs rfl dX12_restoreSnapshot_5 (lkX12_108 _ rfl) (Nat.le_of_ble_eq_true rfl) (Nat.le_of_ble_eq_true rfl) (Nat.le_of_ble_eq_true rfl) (Nat.le_of_ble_eq_true rfl) (c_Mo_in hnx x1 0 1 s) (fun y2 hy2 hs => ?_)
  refine x_ifne hs dX12_restoreSnapshot_8 rfl (fun hs => ?_) (fun hs => ?_)
  · refine x_iconst dX12_restoreSnapshot_15 ?_
    exact q_Mo_restoreSnapshot_b16 hnx x1 0 s hs
  · refine x_iconst dX12_restoreSnapshot_11 ?_
    refine w_goto dX12_restoreSnapshot_12 rfl ?_
    exact q_Mo_restoreSnapshot_b16 hnx x1 1 s hs

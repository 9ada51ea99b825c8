set_option maxRecDepth 100000 in
theorem q_Re_readRow_b41 {C : Cx} {nx : Nat} (hnx : 80 ≤ nx)  (s : Sg) {o : Int × Sg} (hs : Re_readRow_b41  s = some o) : ww C M_X10_readRow 3 0 0 nx (QI nx o.2 o.1) (XF) nx 0 0 41 [(0, .ref 52)] [] (hp nx s) := by
  unfold Re_readRow_b41 at hs
  refine w_aload_n 0 dX10_readRow_41 rfl rfl ?_
  refine x_iconst dX10_readRow_42 ?_
  refine w_aload_n 0 dX10_readRow_43 rfl rfl ?_
  refine x_getI 10 5 dX10_readRow_44 (fxX10_52 rfl) rfl rfl (lt_of hnx (Nat.le_of_ble_eq_true rfl)) ?_
  refine x_V_V M_X10_fail [vi 2, vi (gi s 52 5)] [] hs rfl dX10_readRow_47 (lkX10_55 _ rfl) (lt_of hnx (Nat.le_of_ble_eq_true rfl)) rfl rfl (Nat.le_of_ble_eq_true rfl) (Nat.le_of_ble_eq_true rfl) (Nat.le_of_ble_eq_true rfl) (Nat.le_of_ble_eq_true rfl) (c_Re_fail hnx 2 (gi s 52 5) s) (fun s2 hs2 hs => ?_)
  refine x_iconst dX10_readRow_50 ?_
  cases hs
  exact x_ireturn dX10_readRow_51 rfl rfl (Nat.le_of_ble_eq_true rfl) (Nat.le_of_ble_eq_true rfl) ⟨rfl, rfl⟩
set_option maxRecDepth 100000 in
theorem c_Re_readRow {C : Cx} {nx : Nat} (hnx : 80 ≤ nx)  (s : Sg) : ∀ o, Re_readRow  s = some o → mm C M_X10_readRow 3 0 0 nx nx [.ref 52] (hp nx s) (QI nx o.2 o.1) (XF) := by
  intro o hs
  unfold Re_readRow at hs
  refine mm_of rfl rfl (Nat.le_of_ble_eq_true rfl) ?_
  show ww C M_X10_readRow 3 0 0 nx (QI nx o.2 o.1) (XF) nx 0 0 0 [(0, .ref 52)] [] (hp nx s)
  refine w_aload_n 0 dX10_readRow_0 rfl rfl ?_
  refine x_getI 10 4 dX10_readRow_1 (fxX10_46 rfl) rfl rfl (lt_of hnx (Nat.le_of_ble_eq_true rfl)) ?_
  refine x_iconst dX10_readRow_4 ?_
  refine x_icmpeq hs dX10_readRow_5 rfl (fun hs => ?_) (fun hs => ?_)
  · refine w_aload_n 0 dX10_readRow_19 rfl rfl ?_
    refine x_getI 10 7 dX10_readRow_20 (fxX10_65 rfl) rfl rfl (lt_of hnx (Nat.le_of_ble_eq_true rfl)) ?_
    refine x_iconst dX10_readRow_23 ?_
    refine x_icmplt hs dX10_readRow_24 rfl (fun hs => ?_) (fun hs => ?_)
    · exact q_Re_readRow_b41 hnx  s hs
    · refine w_aload_n 0 dX10_readRow_27 rfl rfl ?_
      refine x_getI 10 7 dX10_readRow_28 (fxX10_65 rfl) rfl rfl (lt_of hnx (Nat.le_of_ble_eq_true rfl)) ?_
      refine w_aload_n 0 dX10_readRow_31 rfl rfl ?_
      refine x_getR 10 3 (b := 53) dX10_readRow_32 (fxX10_26 rfl) rfl rfl (lt_of hnx (Nat.le_of_ble_eq_true rfl)) rfl ?_
      refine x_getI 9 2 dX10_readRow_35 (fxX10_130 rfl) rfl rfl (lt_of hnx (Nat.le_of_ble_eq_true rfl)) ?_
      refine x_icmple hs dX10_readRow_38 rfl (fun hs => ?_) (fun hs => ?_)
      · refine w_aload_n 0 dX10_readRow_52 rfl rfl ?_
        refine x_getI 10 7 dX10_readRow_53 (fxX10_65 rfl) rfl rfl (lt_of hnx (Nat.le_of_ble_eq_true rfl)) ?_
        refine x_iconst dX10_readRow_56 ?_
        refine x_isub dX10_readRow_57 ?_
        refine x_istore_n (fun x1_3 => [(1, vi x1_3), (0, .ref 52)]) hs dX10_readRow_58 rfl (Nat.le_of_ble_eq_true rfl) (fun _ => rfl) (fun x1_3 hs => ?_)
        refine w_aload_n 1 dX10_readRow_59 rfl rfl ?_
        refine x_V_V M_X10_advance [] [] hs rfl dX10_readRow_60 (lkX10_40 _ rfl) (lt_of hnx (Nat.le_of_ble_eq_true rfl)) rfl rfl (Nat.le_of_ble_eq_true rfl) (Nat.le_of_ble_eq_true rfl) (Nat.le_of_ble_eq_true rfl) (Nat.le_of_ble_eq_true rfl) (c_Re_advance hnx s) (fun s5 hs5 hs => ?_)
        refine w_iload_n 0 dX10_readRow_63 rfl rfl ?_
        cases hs
        exact x_ireturn dX10_readRow_64 rfl rfl (Nat.le_of_ble_eq_true rfl) (Nat.le_of_ble_eq_true rfl) ⟨rfl, rfl⟩
      · exact q_Re_readRow_b41 hnx  s hs
  · refine w_aload_n 0 dX10_readRow_8 rfl rfl ?_
    refine x_iconst dX10_readRow_9 ?_
    refine w_aload_n 0 dX10_readRow_10 rfl rfl ?_
    refine x_getI 10 5 dX10_readRow_11 (fxX10_52 rfl) rfl rfl (lt_of hnx (Nat.le_of_ble_eq_true rfl)) ?_
    refine x_V_V M_X10_fail [vi 1, vi (gi s 52 5)] [] hs rfl dX10_readRow_14 (lkX10_55 _ rfl) (lt_of hnx (Nat.le_of_ble_eq_true rfl)) rfl rfl (Nat.le_of_ble_eq_true rfl) (Nat.le_of_ble_eq_true rfl) (Nat.le_of_ble_eq_true rfl) (Nat.le_of_ble_eq_true rfl) (c_Re_fail hnx 1 (gi s 52 5) s) (fun s7 hs7 hs => ?_)
    refine x_iconst dX10_readRow_17 ?_
    cases hs
    exact x_ireturn dX10_readRow_18 rfl rfl (Nat.le_of_ble_eq_true rfl) (Nat.le_of_ble_eq_true rfl) ⟨rfl, rfl⟩
set_option maxRecDepth 100000 in
theorem c_Po_stone {C : Cx} {nx : Nat} (hnx : 80 ≤ nx) (r0 : Nat) (h_r0 : isPos r0) (x1 : Int) (s : Sg) : ∀ o, Po_stone r0 x1 s = some o → mm C M_X9_stone 1 0 0 nx nx [.ref r0, vi x1] (hp nx s) (QI nx s o) (XF) := by
  intro o hs
  unfold Po_stone at hs
  refine mm_of rfl rfl (Nat.le_of_ble_eq_true rfl) ?_
  show ww C M_X9_stone 1 0 0 nx (QI nx s o) (XF) nx 0 0 0 [(0, .ref r0), (1, vi x1)] [] (hp nx s)
  refine w_aload_n 0 dX9_stone_0 rfl rfl ?_
  refine x_getR 9 0 (b := (r0 + 1)) dX9_stone_1 (fxX9_9 rfl) rfl (pos_s0 _ h_r0) (pos_n0 h_r0 hnx) (pos_r0 _ h_r0) ?_
  refine w_iload_n 1 dX9_stone_4 rfl rfl ?_
  refine x_N_I M_X11_at [.ref (r0 + 1), vi x1] [] hs rfl dX9_stone_5 (lkX9_45 _ rfl) (Nat.le_of_ble_eq_true rfl) (Nat.le_of_ble_eq_true rfl) (Nat.le_of_ble_eq_true rfl) (Nat.le_of_ble_eq_true rfl) (c_Hx_at hnx (r0 + 1) (Or.inl (rowW_of (pos_s1 _ h_r0) (pos_n1 h_r0 hnx))) x1 s) (fun y1 hy1 hs => ?_)
  cases hs
  exact x_ireturn dX9_stone_8 rfl rfl (Nat.le_of_ble_eq_true rfl) (Nat.le_of_ble_eq_true rfl) ⟨rfl, rfl⟩
set_option maxRecDepth 100000 in
theorem c_Po_play {C : Cx} {nx : Nat} (hnx : 80 ≤ nx) (r0 : Nat) (h_r0 : isPos r0) (x1 : Int) (s : Sg) : ∀ o, Po_play r0 x1 s = some o → mm C M_X9_play 1 0 0 nx nx [.ref r0, vi x1] (hp nx s) (QV nx o) (XF) := by
  intro o hs
  unfold Po_play at hs
  refine mm_of rfl rfl (Nat.le_of_ble_eq_true rfl) ?_
  show ww C M_X9_play 1 0 0 nx (QV nx o) (XF) nx 0 0 0 [(0, .ref r0), (1, vi x1)] [] (hp nx s)
  refine w_aload_n 0 dX9_play_0 rfl rfl ?_
  refine x_getR 9 0 (b := (r0 + 1)) dX9_play_1 (fxX9_9 rfl) rfl (pos_s0 _ h_r0) (pos_n0 h_r0 hnx) (pos_r0 _ h_r0) ?_
  refine w_iload_n 1 dX9_play_4 rfl rfl ?_
  refine w_aload_n 0 dX9_play_5 rfl rfl ?_
  refine x_getI 9 5 dX9_play_6 (fxX9_29 rfl) rfl (pos_s0 _ h_r0) (pos_n0 h_r0 hnx) ?_
  refine x_N_V M_X11_set [.ref (r0 + 1), vi x1, vi (gi s r0 5)] [] hs rfl dX9_play_9 (lkX9_35 _ rfl) (Nat.le_of_ble_eq_true rfl) (Nat.le_of_ble_eq_true rfl) (Nat.le_of_ble_eq_true rfl) (Nat.le_of_ble_eq_true rfl) (c_Hx_set hnx (r0 + 1) (rowW_of (pos_s1 _ h_r0) (pos_n1 h_r0 hnx)) x1 (gi s r0 5) s) (fun s2 hs2 hs => ?_)
  refine w_aload_n 0 dX9_play_12 rfl rfl ?_
  refine x_getR 9 1 (b := (r0 + 2)) dX9_play_13 (fxX9_15 rfl) rfl (pos_s0 _ h_r0) (pos_n0 h_r0 hnx) (pos_r1 _ h_r0) ?_
  refine w_aload_n 0 dX9_play_16 rfl rfl ?_
  refine x_getI 9 4 dX9_play_17 (fxX9_26 rfl) rfl (pos_s0 _ h_r0) (pos_n0 h_r0 hnx) ?_
  refine w_iload_n 1 dX9_play_20 rfl rfl ?_
  refine x_N_V M_X11_set [.ref (r0 + 2), vi (gi s2 r0 4), vi x1] [] hs rfl dX9_play_21 (lkX9_35 _ rfl) (Nat.le_of_ble_eq_true rfl) (Nat.le_of_ble_eq_true rfl) (Nat.le_of_ble_eq_true rfl) (Nat.le_of_ble_eq_true rfl) (c_Hx_set hnx (r0 + 2) (rowW_of (pos_s2 _ h_r0) (pos_n2 h_r0 hnx)) (gi s2 r0 4) x1 s2) (fun s4 hs4 hs => ?_)
  refine w_aload_n 0 dX9_play_24 rfl rfl ?_
  refine w_dup dX9_play_25 rfl ?_
  refine x_getI 9 4 dX9_play_26 (fxX9_26 rfl) rfl (pos_s0 _ h_r0) (pos_n0 h_r0 hnx) ?_
  refine x_iconst dX9_play_29 ?_
  refine x_iadd dX9_play_30 ?_
  refine x_putI 9 4 dX9_play_31 (poX9_26 rfl) rfl (pos_s0 _ h_r0) (pos_n0 h_r0 hnx) ?_
  refine nam_s hs (fun s5 hs => ?_)
  refine w_aload_n 0 dX9_play_34 rfl rfl ?_
  refine w_aload_n 0 dX9_play_35 rfl rfl ?_
  refine x_getI 9 5 dX9_play_36 (fxX9_29 rfl) rfl (pos_s0 _ h_r0) (pos_n0 h_r0 hnx) ?_
  refine x_N_I M_X11_otherSide [vi (gi s5 r0 5)] [.ref r0] hs rfl dX9_play_39 (lkX9_49 _ rfl) (Nat.le_of_ble_eq_true rfl) (Nat.le_of_ble_eq_true rfl) (Nat.le_of_ble_eq_true rfl) (Nat.le_of_ble_eq_true rfl) (c_Hx_otherSide hnx (gi s5 r0 5) s5) (fun y6 hy6 hs => ?_)
  refine x_putI 9 5 dX9_play_42 (poX9_29 rfl) rfl (pos_s0 _ h_r0) (pos_n0 h_r0 hnx) ?_
  refine nam_s hs (fun s7 hs => ?_)
  cases hs
  exact w_return rfl dX9_play_45 rfl (Nat.le_of_ble_eq_true rfl) (Nat.le_of_ble_eq_true rfl) ⟨rfl, rfl⟩
set_option maxRecDepth 100000 in
theorem c_Po_place {C : Cx} {nx : Nat} (hnx : 80 ≤ nx) (r0 : Nat) (h_r0 : isPos r0) (x1 : Int) (x2 : Int) (s : Sg) : ∀ o, Po_place r0 x1 x2 s = some o → mm C M_X9_place 1 0 0 nx nx [.ref r0, vi x1, vi x2] (hp nx s) (QV nx o) (XF) := by
  intro o hs
  unfold Po_place at hs
  refine mm_of rfl rfl (Nat.le_of_ble_eq_true rfl) ?_
  show ww C M_X9_place 1 0 0 nx (QV nx o) (XF) nx 0 0 0 [(0, .ref r0), (1, vi x1), (2, vi x2)] [] (hp nx s)
  refine w_aload_n 0 dX9_place_0 rfl rfl ?_
  refine x_getR 9 0 (b := (r0 + 1)) dX9_place_1 (fxX9_9 rfl) rfl (pos_s0 _ h_r0) (pos_n0 h_r0 hnx) (pos_r0 _ h_r0) ?_
  refine w_iload_n 1 dX9_place_4 rfl rfl ?_
  refine w_iload_n 2 dX9_place_5 rfl rfl ?_
  refine x_N_V M_X11_set [.ref (r0 + 1), vi x1, vi x2] [] hs rfl dX9_place_6 (lkX9_35 _ rfl) (Nat.le_of_ble_eq_true rfl) (Nat.le_of_ble_eq_true rfl) (Nat.le_of_ble_eq_true rfl) (Nat.le_of_ble_eq_true rfl) (c_Hx_set hnx (r0 + 1) (rowW_of (pos_s1 _ h_r0) (pos_n1 h_r0 hnx)) x1 x2 s) (fun s2 hs2 hs => ?_)
  cases hs
  exact w_return rfl dX9_place_9 rfl (Nat.le_of_ble_eq_true rfl) (Nat.le_of_ble_eq_true rfl) ⟨rfl, rfl⟩
set_option maxRecDepth 100000 in
theorem q_Re_readCell_b54 {C : Cx} {nx : Nat} (hnx : 80 ≤ nx) (x1 : Int) (x2 : Int) (x3 : Int) (x5 : Int) (t0 : Int) (s : Sg) {o : Sg} (hs : Re_readCell_b54 x1 x2 x3 x5 t0 s = some o) : ww C M_X10_readCell 4 0 0 nx (QV nx o) (XF) nx 0 0 54 [(0, .ref 52), (1, vi x1), (2, vi x2), (3, vi x3), (5, vi x5)] [vi t0] (hp nx s) := by
  unfold Re_readCell_b54 at hs
  refine w_istore (lv' := [(6, vi t0), (0, .ref 52), (1, vi x1), (2, vi x2), (3, vi x3), (5, vi x5)]) dX10_readCell_54 (Nat.le_of_ble_eq_true rfl) rfl ?_
  refine w_aload_n 1 dX10_readCell_56 rfl rfl ?_
  refine x_getI 10 8 dX10_readCell_57 (fxX10_30 rfl) rfl rfl (lt_of hnx (Nat.le_of_ble_eq_true rfl)) ?_
  refine x_ifeq hs dX10_readCell_60 rfl (fun hs => ?_) (fun hs => ?_)
  · refine w_aload_n 1 dX10_readCell_64 rfl rfl ?_
    refine x_getR 10 1 (b := 1) dX10_readCell_65 (fxX10_15 rfl) rfl rfl (lt_of hnx (Nat.le_of_ble_eq_true rfl)) rfl ?_
    refine w_iload 0 dX10_readCell_68 rfl ?_
    refine w_iload 5 dX10_readCell_70 rfl ?_
    refine x_V_I M_X5_cellAt [vi t0, vi x5] [] hs rfl dX10_readCell_72 (lkX10_111 _ rfl) (lt_of hnx (Nat.le_of_ble_eq_true rfl)) rfl rfl (Nat.le_of_ble_eq_true rfl) (Nat.le_of_ble_eq_true rfl) (Nat.le_of_ble_eq_true rfl) (Nat.le_of_ble_eq_true rfl) (c_Gr_cellAt hnx t0 x5 s) (fun y4 hy4 hs => ?_)
    refine w_istore (lv' := [(7, vi y4), (6, vi t0), (0, .ref 52), (1, vi x1), (2, vi x2), (3, vi x3), (5, vi x5)]) dX10_readCell_75 (Nat.le_of_ble_eq_true rfl) rfl ?_
    refine w_aload_n 2 dX10_readCell_77 rfl rfl ?_
    refine x_getR 10 3 (b := 53) dX10_readCell_78 (fxX10_26 rfl) rfl rfl (lt_of hnx (Nat.le_of_ble_eq_true rfl)) rfl ?_
    refine w_iload 0 dX10_readCell_81 rfl ?_
    refine x_V_I M_X9_stone [vi y4] [] hs rfl dX10_readCell_83 (lkX10_115 _ rfl) (lt_of hnx (Nat.le_of_ble_eq_true rfl)) rfl rfl (Nat.le_of_ble_eq_true rfl) (Nat.le_of_ble_eq_true rfl) (Nat.le_of_ble_eq_true rfl) (Nat.le_of_ble_eq_true rfl) (c_Po_stone hnx 53 (show 53 ∈ posL by decide) y4 s) (fun y5 hy5 hs => ?_)
    refine x_iconst dX10_readCell_86 ?_
    refine x_icmpeq hs dX10_readCell_87 rfl (fun hs => ?_) (fun hs => ?_)
    · refine w_iload_n 3 dX10_readCell_97 rfl rfl ?_
      refine x_ifeq hs dX10_readCell_98 rfl (fun hs => ?_) (fun hs => ?_)
      · refine w_aload_n 2 dX10_readCell_113 rfl rfl ?_
        refine x_getR 10 3 (b := 53) dX10_readCell_114 (fxX10_26 rfl) rfl rfl (lt_of hnx (Nat.le_of_ble_eq_true rfl)) rfl ?_
        refine w_iload 0 dX10_readCell_117 rfl ?_
        refine w_iload_n 4 dX10_readCell_119 rfl rfl ?_
        refine x_V_V M_X9_place [vi y4, vi x2] [] hs rfl dX10_readCell_120 (lkX10_122 _ rfl) (lt_of hnx (Nat.le_of_ble_eq_true rfl)) rfl rfl (Nat.le_of_ble_eq_true rfl) (Nat.le_of_ble_eq_true rfl) (Nat.le_of_ble_eq_true rfl) (Nat.le_of_ble_eq_true rfl) (c_Po_place hnx 53 (show 53 ∈ posL by decide) y4 x2 s) (fun s7 hs7 hs => ?_)
        cases hs
        exact w_return rfl dX10_readCell_123 rfl (Nat.le_of_ble_eq_true rfl) (Nat.le_of_ble_eq_true rfl) ⟨rfl, rfl⟩
      · refine w_aload_n 2 dX10_readCell_101 rfl rfl ?_
        refine x_getR 10 3 (b := 53) dX10_readCell_102 (fxX10_26 rfl) rfl rfl (lt_of hnx (Nat.le_of_ble_eq_true rfl)) rfl ?_
        refine w_iload 0 dX10_readCell_105 rfl ?_
        refine x_V_V M_X9_play [vi y4] [] hs rfl dX10_readCell_107 (lkX10_119 _ rfl) (lt_of hnx (Nat.le_of_ble_eq_true rfl)) rfl rfl (Nat.le_of_ble_eq_true rfl) (Nat.le_of_ble_eq_true rfl) (Nat.le_of_ble_eq_true rfl) (Nat.le_of_ble_eq_true rfl) (c_Po_play hnx 53 (show 53 ∈ posL by decide) y4 s) (fun s9 hs9 hs => ?_)
        refine w_goto dX10_readCell_110 rfl ?_
        cases hs
        exact w_return rfl dX10_readCell_123 rfl (Nat.le_of_ble_eq_true rfl) (Nat.le_of_ble_eq_true rfl) ⟨rfl, rfl⟩
    · refine w_aload_n 2 dX10_readCell_90 rfl rfl ?_
      refine x_iconst dX10_readCell_91 ?_
      refine w_iload_n 5 dX10_readCell_92 rfl rfl ?_
      refine x_V_V M_X10_fail [vi 3, vi x3] [] hs rfl dX10_readCell_93 (lkX10_55 _ rfl) (lt_of hnx (Nat.le_of_ble_eq_true rfl)) rfl rfl (Nat.le_of_ble_eq_true rfl) (Nat.le_of_ble_eq_true rfl) (Nat.le_of_ble_eq_true rfl) (Nat.le_of_ble_eq_true rfl) (c_Re_fail hnx 3 x3 s) (fun s11 hs11 hs => ?_)
      cases hs
      exact w_return rfl dX10_readCell_96 rfl (Nat.le_of_ble_eq_true rfl) (Nat.le_of_ble_eq_true rfl) ⟨rfl, rfl⟩
  · cases hs
    exact w_return rfl dX10_readCell_63 rfl (Nat.le_of_ble_eq_true rfl) (Nat.le_of_ble_eq_true rfl) ⟨rfl, rfl⟩
set_option maxRecDepth 100000 in
theorem q_Re_readCell_b29 {C : Cx} {nx : Nat} (hnx : 80 ≤ nx) (x1 : Int) (x2 : Int) (x3 : Int) (t0 : Int) (s : Sg) {o : Sg} (hs : Re_readCell_b29 x1 x2 x3 t0 s = some o) : ww C M_X10_readCell 4 0 0 nx (QV nx o) (XF) nx 0 0 29 [(0, .ref 52), (1, vi x1), (2, vi x2), (3, vi x3)] [vi t0] (hp nx s) := by
  unfold Re_readCell_b29 at hs
  refine w_istore (lv' := [(4, vi t0), (0, .ref 52), (1, vi x1), (2, vi x2), (3, vi x3)]) dX10_readCell_29 (Nat.le_of_ble_eq_true rfl) rfl ?_
  refine w_aload_n 1 dX10_readCell_31 rfl rfl ?_
  refine w_iload 0 dX10_readCell_32 rfl ?_
  refine x_V_B M_X10_readColumn [vi t0] [] hs rfl dX10_readCell_34 (lkX10_104 _ rfl) (lt_of hnx (Nat.le_of_ble_eq_true rfl)) rfl rfl (Nat.le_of_ble_eq_true rfl) (Nat.le_of_ble_eq_true rfl) (Nat.le_of_ble_eq_true rfl) (Nat.le_of_ble_eq_true rfl) (c_Re_readColumn hnx t0 s) (fun y2 s3 hy2 hs => ?_)
  refine w_istore (lv' := [(5, vi y2), (4, vi t0), (0, .ref 52), (1, vi x1), (2, vi x2), (3, vi x3)]) dX10_readCell_37 (Nat.le_of_ble_eq_true rfl) rfl ?_
  refine w_aload_n 2 dX10_readCell_39 rfl rfl ?_
  refine x_getI 10 8 dX10_readCell_40 (fxX10_30 rfl) rfl rfl (lt_of hnx (Nat.le_of_ble_eq_true rfl)) ?_
  refine x_ifne hs dX10_readCell_43 rfl (fun hs => ?_) (fun hs => ?_)
  · refine x_iconst dX10_readCell_53 ?_
    refine w_lv (lv' := [(0, .ref 52), (1, vi x1), (2, vi x2), (3, vi x3), (5, vi y2)]) [2, 3, 4, 5, 0] rfl ?_
    exact q_Re_readCell_b54 hnx x1 x2 x3 y2 (-1) s3 hs
  · refine w_aload_n 2 dX10_readCell_46 rfl rfl ?_
    refine x_V_B M_X10_readRow [] [] hs rfl dX10_readCell_47 (lkX10_108 _ rfl) (lt_of hnx (Nat.le_of_ble_eq_true rfl)) rfl rfl (Nat.le_of_ble_eq_true rfl) (Nat.le_of_ble_eq_true rfl) (Nat.le_of_ble_eq_true rfl) (Nat.le_of_ble_eq_true rfl) (c_Re_readRow hnx s3) (fun y12 s13 hy12 hs => ?_)
    refine w_goto dX10_readCell_50 rfl ?_
    refine w_lv (lv' := [(0, .ref 52), (1, vi x1), (2, vi x2), (3, vi x3), (5, vi y2)]) [2, 3, 4, 5, 0] rfl ?_
    exact q_Re_readCell_b54 hnx x1 x2 x3 y2 y12 s13 hs
set_option maxRecDepth 100000 in
theorem q_Re_readCell_b28 {C : Cx} {nx : Nat} (hnx : 80 ≤ nx) (x1 : Int) (x2 : Int) (x3 : Int) (s : Sg) {o : Sg} (hs : Re_readCell_b28 x1 x2 x3 s = some o) : ww C M_X10_readCell 4 0 0 nx (QV nx o) (XF) nx 0 0 28 [(0, .ref 52), (1, vi x1), (2, vi x2), (3, vi x3)] [] (hp nx s) := by
  unfold Re_readCell_b28 at hs
  refine x_iconst dX10_readCell_28 ?_
  exact q_Re_readCell_b29 hnx x1 x2 x3 0 s hs
set_option maxRecDepth 100000 in
theorem c_Re_readCell {C : Cx} {nx : Nat} (hnx : 80 ≤ nx) (x1 : Int) (x2 : Int) (s : Sg) : ∀ o, Re_readCell x1 x2 s = some o → mm C M_X10_readCell 4 0 0 nx nx [.ref 52, vi x1, vi x2] (hp nx s) (QV nx o) (XF) := by
  intro o hs
  unfold Re_readCell at hs
  refine mm_of rfl rfl (Nat.le_of_ble_eq_true rfl) ?_
  show ww C M_X10_readCell 4 0 0 nx (QV nx o) (XF) nx 0 0 0 [(0, .ref 52), (1, vi x1), (2, vi x2)] [] (hp nx s)
  refine w_aload_n 0 dX10_readCell_0 rfl rfl ?_
  refine x_getI 10 5 dX10_readCell_1 (fxX10_52 rfl) rfl rfl (lt_of hnx (Nat.le_of_ble_eq_true rfl)) ?_
  refine x_istore_n (fun x3_1 => [(3, vi x3_1), (0, .ref 52), (1, vi x1), (2, vi x2)]) hs dX10_readCell_4 rfl (Nat.le_of_ble_eq_true rfl) (fun _ => rfl) (fun x3_1 hs => ?_)
  refine w_iload_n 2 dX10_readCell_5 rfl rfl ?_
  refine x_ifeq hs dX10_readCell_6 rfl (fun hs => ?_) (fun hs => ?_)
  · refine w_lv (lv' := [(0, .ref 52), (1, vi x1), (2, vi x2), (3, vi x3_1)]) [1, 2, 3, 0] rfl ?_
    exact q_Re_readCell_b28 hnx x1 x2 x3_1 s hs
  · refine w_aload_n 1 dX10_readCell_9 rfl rfl ?_
    refine x_getR 10 3 (b := 53) dX10_readCell_10 (fxX10_26 rfl) rfl rfl (lt_of hnx (Nat.le_of_ble_eq_true rfl)) rfl ?_
    refine w_aload_n 1 dX10_readCell_13 rfl rfl ?_
    refine x_getR 10 2 (b := 5) dX10_readCell_14 (fxX10_19 rfl) rfl rfl (lt_of hnx (Nat.le_of_ble_eq_true rfl)) rfl ?_
    refine x_V_B M_X9_winner [.ref 5] [] hs rfl dX10_readCell_17 (lkX10_100 _ rfl) (lt_of hnx (Nat.le_of_ble_eq_true rfl)) rfl rfl (Nat.le_of_ble_eq_true rfl) (Nat.le_of_ble_eq_true rfl) (Nat.le_of_ble_eq_true rfl) (Nat.le_of_ble_eq_true rfl) (c_Po_winner hnx 53 (show 53 ∈ posL by decide) s) (fun y14 s15 hy14 hs => ?_)
    refine x_iconst dX10_readCell_20 ?_
    refine x_icmpeq hs dX10_readCell_21 rfl (fun hs => ?_) (fun hs => ?_)
    · refine w_lv (lv' := [(0, .ref 52), (1, vi x1), (2, vi x2), (3, vi x3_1)]) [1, 2, 3, 0] rfl ?_
      exact q_Re_readCell_b28 hnx x1 x2 x3_1 s15 hs
    · refine x_iconst dX10_readCell_24 ?_
      refine w_goto dX10_readCell_25 rfl ?_
      refine w_lv (lv' := [(0, .ref 52), (1, vi x1), (2, vi x2), (3, vi x3_1)]) [1, 2, 3, 0] rfl ?_
      exact q_Re_readCell_b29 hnx x1 x2 x3_1 1 s15 hs
set_option maxRecDepth 100000 in
theorem q_Re_readStatement_b85 {C : Cx} {nx : Nat} (hnx : 80 ≤ nx) {Qr : Option Value → Hp → Prop} {Qx : String → Hp → Prop}  (x1 : Int) (x3 : Int) (x4 : Int) (s : Sg) {o : ((Int × Sg) ⊕ (Sg))} (hs : Re_readStatement_b85 x1 x3 x4 s = some o) (hb : ∀ σ : Int × Sg, o = .inl σ → ww C M_X10_readStatement 12 0 0 nx (Qr) (Qx) nx 0 0 58 [(0, .ref 52), (1, vi x1), (3, vi x3), (4, vi σ.1)] [] (hp nx σ.2)) (he0 : ∀ ρ : Sg, o = .inr ρ → ww C M_X10_readStatement 12 0 0 nx (Qr) (Qx) nx 0 0 97 [] [] (hp nx ρ)) : ww C M_X10_readStatement 12 0 0 nx (Qr) (Qx) nx 0 0 85 [(0, .ref 52), (1, vi x1), (3, vi x3), (4, vi x4)] [] (hp nx s) := by
  unfold Re_readStatement_b85 at hs
  refine w_aload_n 0 dX10_readStatement_85 rfl rfl ?_
  refine w_iload_n 1 dX10_readStatement_86 rfl rfl ?_
  refine w_iload_n 2 dX10_readStatement_87 rfl rfl ?_
  refine x_V_V M_X10_readCell [vi x1, vi x3] [] hs rfl dX10_readStatement_88 (lkX10_94 _ rfl) (lt_of hnx (Nat.le_of_ble_eq_true rfl)) rfl rfl (Nat.le_of_ble_eq_true rfl) (Nat.le_of_ble_eq_true rfl) (Nat.le_of_ble_eq_true rfl) (Nat.le_of_ble_eq_true rfl) (c_Re_readCell hnx x1 x3 s) (fun s7 hs7 hs => ?_)
  refine x_iinc (lv' := [(4, vi (x4 + 1)), (0, .ref 52), (1, vi x1), (3, vi x3)]) 3 dX10_readStatement_91 rfl (Nat.le_of_ble_eq_true rfl) rfl ?_
  refine w_goto dX10_readStatement_94 rfl ?_
  refine w_lv (lv' := [(0, .ref 52), (1, vi x1), (3, vi x3), (4, vi (x4 + 1))]) [1, 2, 3, 0] rfl ?_
  cases hs
  exact hb _ rfl
set_option maxRecDepth 100000 in
theorem q_Re_readStatement_t58 {C : Cx} {nx : Nat} (hnx : 80 ≤ nx) {Qr : Option Value → Hp → Prop} {Qx : String → Hp → Prop}  (x1 : Int) (x3 : Int) (x4 : Int) (s : Sg) {o : ((Int × Sg) ⊕ (Sg))} (hs : Re_readStatement_t58 x1 x3 x4 s = some o) (hb : ∀ σ : Int × Sg, o = .inl σ → ww C M_X10_readStatement 12 0 0 nx (Qr) (Qx) nx 0 0 58 [(0, .ref 52), (1, vi x1), (3, vi x3), (4, vi σ.1)] [] (hp nx σ.2)) (he0 : ∀ ρ : Sg, o = .inr ρ → ww C M_X10_readStatement 12 0 0 nx (Qr) (Qx) nx 0 0 97 [] [] (hp nx ρ)) : ww C M_X10_readStatement 12 0 0 nx (Qr) (Qx) nx 0 0 58 [(0, .ref 52), (1, vi x1), (3, vi x3), (4, vi x4)] [] (hp nx s) := by
  unfold Re_readStatement_t58 at hs
  refine w_iload 3 dX10_readStatement_58 rfl ?_
  refine x_bipush dX10_readStatement_60 (by decide) ?_
  refine x_icmpgt hs dX10_readStatement_62 rfl (fun hs => ?_) (fun hs => ?_)
  · refine w_lv (lv' := []) [] rfl ?_
    cases hs
    exact he0 _ rfl
  · refine w_aload_n 0 dX10_readStatement_65 rfl rfl ?_
    refine x_getI 10 8 dX10_readStatement_66 (fxX10_30 rfl) rfl rfl (lt_of hnx (Nat.le_of_ble_eq_true rfl)) ?_
    refine x_ifne hs dX10_readStatement_69 rfl (fun hs => ?_) (fun hs => ?_)
    · refine w_lv (lv' := []) [] rfl ?_
      cases hs
      exact he0 _ rfl
    · refine w_iload 3 dX10_readStatement_72 rfl ?_
      refine x_ifeq hs dX10_readStatement_74 rfl (fun hs => ?_) (fun hs => ?_)
      · exact q_Re_readStatement_b85 hnx x1 x3 x4 s hs hb he0
      · refine w_aload_n 0 dX10_readStatement_77 rfl rfl ?_
        refine x_getI 10 4 dX10_readStatement_78 (fxX10_46 rfl) rfl rfl (lt_of hnx (Nat.le_of_ble_eq_true rfl)) ?_
        refine x_iconst dX10_readStatement_81 ?_
        refine x_icmpne hs dX10_readStatement_82 rfl (fun hs => ?_) (fun hs => ?_)
        · refine w_lv (lv' := []) [] rfl ?_
          cases hs
          exact he0 _ rfl
        · exact q_Re_readStatement_b85 hnx x1 x3 x4 s hs hb he0
set_option maxRecDepth 100000 in
theorem q_Re_readStatement_l58 {C : Cx} {nx : Nat} (hnx : 80 ≤ nx) (x1 : Int) (x3 : Int) (x4 : Int) (s : Sg) {o : Sg} (hs : Re_readStatement_l58 x1 x3 x4 s = some o) : ww C M_X10_readStatement 12 0 0 nx (QV nx o) (XF) nx 0 0 58 [(0, .ref 52), (1, vi x1), (3, vi x3), (4, vi x4)] [] (hp nx s) := by
  unfold Re_readStatement_l58 at hs
  refine bnd_e hs (fun s_8 hw hs => ?_)
  have hE : ww C M_X10_readStatement 12 0 0 nx (QV nx o) (XF) nx 0 0 97 [] [] (hp nx s_8) := by
    cases hs
    exact w_return rfl dX10_readStatement_97 rfl (Nat.le_of_ble_eq_true rfl) (Nat.le_of_ble_eq_true rfl) ⟨rfl, rfl⟩
  refine whl_w (P := fun σ => ww C M_X10_readStatement 12 0 0 nx (QV nx o) (XF) nx 0 0 58 [(0, .ref 52), (1, vi x1), (3, vi x3), (4, vi σ.1)] [] (hp nx σ.2)) (E := fun ρ => ρ = s_8) hw rfl ?_
  intro σ o' hs' hb' he'
  exact q_Re_readStatement_t58 hnx x1 x3 σ.1 σ.2 hs' hb' (fun ρ e => by cases he' _ e; exact hE)
set_option maxRecDepth 100000 in
theorem q_Re_readStatement_b42 {C : Cx} {nx : Nat} (hnx : 80 ≤ nx) (x1 : Int) (x2 : Int) (x3 : Int) (s : Sg) {o : Sg} (hs : Re_readStatement_b42 x1 x2 x3 s = some o) : ww C M_X10_readStatement 12 0 0 nx (QV nx o) (XF) nx 0 0 42 [(0, .ref 52), (1, vi x1), (2, vi x2), (3, vi x3)] [] (hp nx s) := by
  unfold Re_readStatement_b42 at hs
  refine w_aload_n 0 dX10_readStatement_42 rfl rfl ?_
  refine x_V_V M_X10_advance [] [] hs rfl dX10_readStatement_43 (lkX10_40 _ rfl) (lt_of hnx (Nat.le_of_ble_eq_true rfl)) rfl rfl (Nat.le_of_ble_eq_true rfl) (Nat.le_of_ble_eq_true rfl) (Nat.le_of_ble_eq_true rfl) (Nat.le_of_ble_eq_true rfl) (c_Re_advance hnx s) (fun s5 hs5 hs => ?_)
  refine w_iload_n 2 dX10_readStatement_46 rfl rfl ?_
  refine x_ifeq hs dX10_readStatement_47 rfl (fun hs => ?_) (fun hs => ?_)
  · refine x_iconst dX10_readStatement_55 ?_
    refine w_istore (lv' := [(4, vi 0), (0, .ref 52), (1, vi x1), (2, vi x2), (3, vi x3)]) dX10_readStatement_56 (Nat.le_of_ble_eq_true rfl) rfl ?_
    refine w_lv (lv' := [(0, .ref 52), (1, vi x1), (3, vi x3), (4, vi 0)]) [1, 2, 4, 0] rfl ?_
    exact q_Re_readStatement_l58 hnx x1 x3 0 s5 hs
  · refine w_aload_n 0 dX10_readStatement_50 rfl rfl ?_
    refine x_V_V M_X10_readTurn [] [] hs rfl dX10_readStatement_51 (lkX10_91 _ rfl) (lt_of hnx (Nat.le_of_ble_eq_true rfl)) rfl rfl (Nat.le_of_ble_eq_true rfl) (Nat.le_of_ble_eq_true rfl) (Nat.le_of_ble_eq_true rfl) (Nat.le_of_ble_eq_true rfl) (c_Re_readTurn hnx s5) (fun s10 hs10 hs => ?_)
    cases hs
    exact w_return rfl dX10_readStatement_54 rfl (Nat.le_of_ble_eq_true rfl) (Nat.le_of_ble_eq_true rfl) ⟨rfl, rfl⟩
set_option maxRecDepth 100000 in
theorem c_Re_readStatement {C : Cx} {nx : Nat} (hnx : 80 ≤ nx)  (s : Sg) : ∀ o, Re_readStatement  s = some o → mm C M_X10_readStatement 12 0 0 nx nx [.ref 52] (hp nx s) (QV nx o) (XF) := by
  intro o hs
  unfold Re_readStatement at hs
  refine mm_of rfl rfl (Nat.le_of_ble_eq_true rfl) ?_
  show ww C M_X10_readStatement 12 0 0 nx (QV nx o) (XF) nx 0 0 0 [(0, .ref 52)] [] (hp nx s)
  refine w_aload_n 0 dX10_readStatement_0 rfl rfl ?_
  refine x_ldcS dX10_readStatement_1 (srX10_83 (M := M_X10_readStatement) rfl) (by decide) ?_
  refine x_V_I M_X10_isWord [.ref 2002] [] hs rfl dX10_readStatement_3 (lkX10_61 _ rfl) (lt_of hnx (Nat.le_of_ble_eq_true rfl)) rfl rfl (Nat.le_of_ble_eq_true rfl) (Nat.le_of_ble_eq_true rfl) (Nat.le_of_ble_eq_true rfl) (Nat.le_of_ble_eq_true rfl) (c_Re_isWord hnx 2 (Or.inl (by decide)) s) (fun y1 hy1 hs => ?_)
  refine w_istore_n (lv' := [(1, vi y1), (0, .ref 52)]) dX10_readStatement_6 rfl (Nat.le_of_ble_eq_true rfl) rfl ?_
  refine w_aload_n 1 dX10_readStatement_7 rfl rfl ?_
  refine x_ldcS dX10_readStatement_8 (srX10_85 (M := M_X10_readStatement) rfl) (by decide) ?_
  refine x_V_I M_X10_isWord [.ref 2003] [] hs rfl dX10_readStatement_10 (lkX10_61 _ rfl) (lt_of hnx (Nat.le_of_ble_eq_true rfl)) rfl rfl (Nat.le_of_ble_eq_true rfl) (Nat.le_of_ble_eq_true rfl) (Nat.le_of_ble_eq_true rfl) (Nat.le_of_ble_eq_true rfl) (c_Re_isWord hnx 3 (Or.inl (by decide)) s) (fun y2 hy2 hs => ?_)
  refine w_istore_n (lv' := [(2, vi y2), (1, vi y1), (0, .ref 52)]) dX10_readStatement_13 rfl (Nat.le_of_ble_eq_true rfl) rfl ?_
  refine w_aload_n 2 dX10_readStatement_14 rfl rfl ?_
  refine x_V_I M_X10_sideWord [] [] hs rfl dX10_readStatement_15 (lkX10_87 _ rfl) (lt_of hnx (Nat.le_of_ble_eq_true rfl)) rfl rfl (Nat.le_of_ble_eq_true rfl) (Nat.le_of_ble_eq_true rfl) (Nat.le_of_ble_eq_true rfl) (Nat.le_of_ble_eq_true rfl) (c_Re_sideWord hnx s) (fun y3 hy3 hs => ?_)
  refine w_istore_n (lv' := [(3, vi y3), (2, vi y2), (1, vi y1), (0, .ref 52)]) dX10_readStatement_18 rfl (Nat.le_of_ble_eq_true rfl) rfl ?_
  refine w_iload_n 2 dX10_readStatement_19 rfl rfl ?_
  refine x_ifne hs dX10_readStatement_20 rfl (fun hs => ?_) (fun hs => ?_)
  · refine w_lv (lv' := [(0, .ref 52), (1, vi y1), (2, vi y2), (3, vi y3)]) [3, 2, 1, 0] rfl ?_
    exact q_Re_readStatement_b42 hnx y1 y2 y3 s hs
  · refine w_iload_n 1 dX10_readStatement_23 rfl rfl ?_
    refine x_ifne hs dX10_readStatement_24 rfl (fun hs => ?_) (fun hs => ?_)
    · refine w_lv (lv' := [(0, .ref 52), (1, vi y1), (2, vi y2), (3, vi y3)]) [3, 2, 1, 0] rfl ?_
      exact q_Re_readStatement_b42 hnx y1 y2 y3 s hs
    · refine w_iload_n 0 dX10_readStatement_27 rfl rfl ?_
      refine x_iconst dX10_readStatement_28 ?_
      refine x_icmpne hs dX10_readStatement_29 rfl (fun hs => ?_) (fun hs => ?_)
      · refine w_lv (lv' := [(0, .ref 52), (1, vi y1), (2, vi y2), (3, vi y3)]) [3, 2, 1, 0] rfl ?_
        exact q_Re_readStatement_b42 hnx y1 y2 y3 s hs
      · refine w_aload_n 3 dX10_readStatement_32 rfl rfl ?_
        refine x_iconst dX10_readStatement_33 ?_
        refine w_aload_n 3 dX10_readStatement_34 rfl rfl ?_
        refine x_getI 10 5 dX10_readStatement_35 (fxX10_52 rfl) rfl rfl (lt_of hnx (Nat.le_of_ble_eq_true rfl)) ?_
        refine x_V_V M_X10_fail [vi 1, vi (gi s 52 5)] [] hs rfl dX10_readStatement_38 (lkX10_55 _ rfl) (lt_of hnx (Nat.le_of_ble_eq_true rfl)) rfl rfl (Nat.le_of_ble_eq_true rfl) (Nat.le_of_ble_eq_true rfl) (Nat.le_of_ble_eq_true rfl) (Nat.le_of_ble_eq_true rfl) (c_Re_fail hnx 1 (gi s 52 5) s) (fun s12 hs12 hs => ?_)
        cases hs
        exact w_return rfl dX10_readStatement_41 rfl (Nat.le_of_ble_eq_true rfl) (Nat.le_of_ble_eq_true rfl) ⟨rfl, rfl⟩
set_option maxRecDepth 100000 in
theorem q_Re_read_t25 {C : Cx} {nx : Nat} (hnx : 80 ≤ nx) {Qr : Option Value → Hp → Prop} {Qx : String → Hp → Prop}  (x1 : Int) (s : Sg) {o : ((Int × Sg) ⊕ (Sg))} (hs : Re_read_t25 x1 s = some o) (hb : ∀ σ : Int × Sg, o = .inl σ → ww C M_X10_read 13 0 0 nx (Qr) (Qx) nx 0 0 25 [(0, .ref 52), (1, vi σ.1)] [] (hp nx σ.2)) (he0 : ∀ ρ : Sg, o = .inr ρ → ww C M_X10_read 13 0 0 nx (Qr) (Qx) nx 0 0 71 [(0, .ref 52)] [] (hp nx ρ)) : ww C M_X10_read 13 0 0 nx (Qr) (Qx) nx 0 0 25 [(0, .ref 52), (1, vi x1)] [] (hp nx s) := by
  unfold Re_read_t25 at hs
  refine w_iload_n 1 dX10_read_25 rfl rfl ?_
  refine x_sipush dX10_read_26 (by decide) ?_
  refine x_icmpge hs dX10_read_29 rfl (fun hs => ?_) (fun hs => ?_)
  · refine w_lv (lv' := [(0, .ref 52)]) [0] rfl ?_
    cases hs
    exact he0 _ rfl
  · refine w_aload_n 0 dX10_read_32 rfl rfl ?_
    refine x_getI 10 8 dX10_read_33 (fxX10_30 rfl) rfl rfl (lt_of hnx (Nat.le_of_ble_eq_true rfl)) ?_
    refine x_ifne hs dX10_read_36 rfl (fun hs => ?_) (fun hs => ?_)
    · refine w_lv (lv' := [(0, .ref 52)]) [0] rfl ?_
      cases hs
      exact he0 _ rfl
    · refine w_aload_n 0 dX10_read_39 rfl rfl ?_
      refine x_getI 10 4 dX10_read_40 (fxX10_46 rfl) rfl rfl (lt_of hnx (Nat.le_of_ble_eq_true rfl)) ?_
      refine x_iconst dX10_read_43 ?_
      refine x_icmpne hs dX10_read_44 rfl (fun hs => ?_) (fun hs => ?_)
      · refine w_lv (lv' := [(0, .ref 52)]) [0] rfl ?_
        cases hs
        exact he0 _ rfl
      · refine w_aload_n 0 dX10_read_47 rfl rfl ?_
        refine w_dup dX10_read_48 rfl ?_
        refine x_getI 10 10 dX10_read_49 (fxX10_34 rfl) rfl rfl (lt_of hnx (Nat.le_of_ble_eq_true rfl)) ?_
        refine x_iconst dX10_read_52 ?_
        refine x_iadd dX10_read_53 ?_
        refine x_putI 10 10 dX10_read_54 (poX10_34 rfl) rfl rfl (lt_of hnx (Nat.le_of_ble_eq_true rfl)) ?_
        refine nam_s hs (fun s8 hs => ?_)
        refine w_aload_n 0 dX10_read_57 rfl rfl ?_
        refine x_V_V M_X10_advance [] [] hs rfl dX10_read_58 (lkX10_40 _ rfl) (lt_of hnx (Nat.le_of_ble_eq_true rfl)) rfl rfl (Nat.le_of_ble_eq_true rfl) (Nat.le_of_ble_eq_true rfl) (Nat.le_of_ble_eq_true rfl) (Nat.le_of_ble_eq_true rfl) (c_Re_advance hnx s8) (fun s10 hs10 hs => ?_)
        refine w_aload_n 0 dX10_read_61 rfl rfl ?_
        refine x_V_V M_X10_readStatement [] [] hs rfl dX10_read_62 (lkX10_49 _ rfl) (lt_of hnx (Nat.le_of_ble_eq_true rfl)) rfl rfl (Nat.le_of_ble_eq_true rfl) (Nat.le_of_ble_eq_true rfl) (Nat.le_of_ble_eq_true rfl) (Nat.le_of_ble_eq_true rfl) (c_Re_readStatement hnx s10) (fun s12 hs12 hs => ?_)
        refine x_iinc (lv' := [(1, vi (x1 + 1)), (0, .ref 52)]) 1 dX10_read_65 rfl (Nat.le_of_ble_eq_true rfl) rfl ?_
        refine w_goto dX10_read_68 rfl ?_
        refine w_lv (lv' := [(0, .ref 52), (1, vi (x1 + 1))]) [1, 0] rfl ?_
        cases hs
        exact hb _ rfl
set_option maxRecDepth 100000 in
theorem q_Re_read_b94 {C : Cx} {nx : Nat} (hnx : 80 ≤ nx)  (s : Sg) {o : Int × Sg} (hs : Re_read_b94  s = some o) : ww C M_X10_read 13 0 0 nx (QI nx o.2 o.1) (XF) nx 0 0 94 [(0, .ref 52)] [] (hp nx s) := by
  unfold Re_read_b94 at hs
  refine w_aload_n 0 dX10_read_94 rfl rfl ?_
  refine x_getI 10 8 dX10_read_95 (fxX10_30 rfl) rfl rfl (lt_of hnx (Nat.le_of_ble_eq_true rfl)) ?_
  refine x_ifne hs dX10_read_98 rfl (fun hs => ?_) (fun hs => ?_)
  · refine x_iconst dX10_read_105 ?_
    cases hs
    exact x_zreturn (Or.inl rfl) dX10_read_106 rfl rfl (Nat.le_of_ble_eq_true rfl) (Nat.le_of_ble_eq_true rfl) ⟨rfl, rfl⟩
  · refine x_iconst dX10_read_101 ?_
    refine w_goto dX10_read_102 rfl ?_
    cases hs
    exact x_zreturn (Or.inr rfl) dX10_read_106 rfl rfl (Nat.le_of_ble_eq_true rfl) (Nat.le_of_ble_eq_true rfl) ⟨rfl, rfl⟩
set_option maxRecDepth 100000 in
theorem q_Re_read_b71 {C : Cx} {nx : Nat} (hnx : 80 ≤ nx)  (s : Sg) {o : Int × Sg} (hs : Re_read_b71  s = some o) : ww C M_X10_read 13 0 0 nx (QI nx o.2 o.1) (XF) nx 0 0 71 [(0, .ref 52)] [] (hp nx s) := by
  unfold Re_read_b71 at hs
  refine w_aload_n 0 dX10_read_71 rfl rfl ?_
  refine x_getI 10 8 dX10_read_72 (fxX10_30 rfl) rfl rfl (lt_of hnx (Nat.le_of_ble_eq_true rfl)) ?_
  refine x_ifne hs dX10_read_75 rfl (fun hs => ?_) (fun hs => ?_)
  · exact q_Re_read_b94 hnx  s hs
  · refine w_aload_n 0 dX10_read_78 rfl rfl ?_
    refine x_getI 10 4 dX10_read_79 (fxX10_46 rfl) rfl rfl (lt_of hnx (Nat.le_of_ble_eq_true rfl)) ?_
    refine x_ifeq hs dX10_read_82 rfl (fun hs => ?_) (fun hs => ?_)
    · exact q_Re_read_b94 hnx  s hs
    · refine w_aload_n 0 dX10_read_85 rfl rfl ?_
      refine x_iconst dX10_read_86 ?_
      refine w_aload_n 0 dX10_read_87 rfl rfl ?_
      refine x_getI 10 5 dX10_read_88 (fxX10_52 rfl) rfl rfl (lt_of hnx (Nat.le_of_ble_eq_true rfl)) ?_
      refine x_V_V M_X10_fail [vi 1, vi (gi s 52 5)] [] hs rfl dX10_read_91 (lkX10_55 _ rfl) (lt_of hnx (Nat.le_of_ble_eq_true rfl)) rfl rfl (Nat.le_of_ble_eq_true rfl) (Nat.le_of_ble_eq_true rfl) (Nat.le_of_ble_eq_true rfl) (Nat.le_of_ble_eq_true rfl) (c_Re_fail hnx 1 (gi s 52 5) s) (fun s15 hs15 hs => ?_)
      exact q_Re_read_b94 hnx  s15 hs
set_option maxRecDepth 100000 in
theorem q_Re_read_l25 {C : Cx} {nx : Nat} (hnx : 80 ≤ nx) (x1 : Int) (s : Sg) {o : Int × Sg} (hs : Re_read_l25 x1 s = some o) : ww C M_X10_read 13 0 0 nx (QI nx o.2 o.1) (XF) nx 0 0 25 [(0, .ref 52), (1, vi x1)] [] (hp nx s) := by
  unfold Re_read_l25 at hs
  refine bnd_e hs (fun s_13 hw hs => ?_)
  have hE : ww C M_X10_read 13 0 0 nx (QI nx o.2 o.1) (XF) nx 0 0 71 [(0, .ref 52)] [] (hp nx s_13) := by
    exact q_Re_read_b71 hnx  s_13 hs
  refine whl_w (P := fun σ => ww C M_X10_read 13 0 0 nx (QI nx o.2 o.1) (XF) nx 0 0 25 [(0, .ref 52), (1, vi σ.1)] [] (hp nx σ.2)) (E := fun ρ => ρ = s_13) hw rfl ?_
  intro σ o' hs' hb' he'
  exact q_Re_read_t25 hnx σ.1 σ.2 hs' hb' (fun ρ e => by cases he' _ e; exact hE)
set_option maxRecDepth 100000 in
theorem c_Re_read {C : Cx} {nx : Nat} (hnx : 80 ≤ nx)  (s : Sg) : ∀ o, Re_read  s = some o → mm C M_X10_read 13 0 0 nx nx [.ref 52] (hp nx s) (QI nx o.2 o.1) (XF) := by
  intro o hs
  unfold Re_read at hs
  refine mm_of rfl rfl (Nat.le_of_ble_eq_true rfl) ?_
  show ww C M_X10_read 13 0 0 nx (QI nx o.2 o.1) (XF) nx 0 0 0 [(0, .ref 52)] [] (hp nx s)
  refine w_aload_n 0 dX10_read_0 rfl rfl ?_
  refine x_iconst dX10_read_1 ?_
  refine x_putI 10 8 dX10_read_2 (poX10_30 rfl) rfl rfl (lt_of hnx (Nat.le_of_ble_eq_true rfl)) ?_
  refine nam_s hs (fun s1 hs => ?_)
  refine w_aload_n 0 dX10_read_5 rfl rfl ?_
  refine x_iconst dX10_read_6 ?_
  refine x_putI 10 10 dX10_read_7 (poX10_34 rfl) rfl rfl (lt_of hnx (Nat.le_of_ble_eq_true rfl)) ?_
  refine nam_s hs (fun s2 hs => ?_)
  refine w_aload_n 0 dX10_read_10 rfl rfl ?_
  refine x_iconst dX10_read_11 ?_
  refine x_putI 10 6 dX10_read_12 (poX10_37 rfl) rfl rfl (lt_of hnx (Nat.le_of_ble_eq_true rfl)) ?_
  refine nam_s hs (fun s3 hs => ?_)
  refine w_aload_n 0 dX10_read_15 rfl rfl ?_
  refine x_V_V M_X10_advance [] [] hs rfl dX10_read_16 (lkX10_40 _ rfl) (lt_of hnx (Nat.le_of_ble_eq_true rfl)) rfl rfl (Nat.le_of_ble_eq_true rfl) (Nat.le_of_ble_eq_true rfl) (Nat.le_of_ble_eq_true rfl) (Nat.le_of_ble_eq_true rfl) (c_Re_advance hnx s3) (fun s5 hs5 hs => ?_)
  refine w_aload_n 0 dX10_read_19 rfl rfl ?_
  refine x_V_V M_X10_readBoard [] [] hs rfl dX10_read_20 (lkX10_43 _ rfl) (lt_of hnx (Nat.le_of_ble_eq_true rfl)) rfl rfl (Nat.le_of_ble_eq_true rfl) (Nat.le_of_ble_eq_true rfl) (Nat.le_of_ble_eq_true rfl) (Nat.le_of_ble_eq_true rfl) (c_Re_readBoard hnx s5) (fun s7 hs7 hs => ?_)
  refine x_iconst dX10_read_23 ?_
  refine w_istore_n (lv' := [(1, vi 0), (0, .ref 52)]) dX10_read_24 rfl (Nat.le_of_ble_eq_true rfl) rfl ?_
  refine w_lv (lv' := [(0, .ref 52), (1, vi 0)]) [1, 0] rfl ?_
  exact q_Re_read_l25 hnx 0 s7 hs
set_option maxRecDepth 100000 in
theorem c_By_clear {C : Cx} {nx : Nat} (hnx : 80 ≤ nx) (r0 : Nat) (h_r0 : isBytes r0) (s : Sg) : ∀ o, By_clear r0 s = some o → mm C M_X1_clear 0 0 0 nx nx [.ref r0] (hp nx s) (QV nx o) (XF) := by
  intro o hs
  unfold By_clear at hs
  refine mm_of rfl rfl (Nat.le_of_ble_eq_true rfl) ?_
  show ww C M_X1_clear 0 0 0 nx (QV nx o) (XF) nx 0 0 0 [(0, .ref r0)] [] (hp nx s)
  refine w_aload_n 0 dX1_clear_0 rfl rfl ?_
  refine x_iconst dX1_clear_1 ?_
  refine x_putI 1 1 dX1_clear_2 (poX1_21 rfl) rfl (bytes_s0 h_r0) (bytes_n (j := 0) h_r0 (by decide) hnx) ?_
  refine nam_s hs (fun s1 hs => ?_)
  cases hs
  exact w_return rfl dX1_clear_5 rfl (Nat.le_of_ble_eq_true rfl) (Nat.le_of_ble_eq_true rfl) ⟨rfl, rfl⟩
set_option maxRecDepth 100000 in
theorem c_Po_copy {C : Cx} {nx : Nat} (hnx : 80 ≤ nx) (r0 : Nat) (h_r0 : isPos r0) (r1 : Nat) (h_r1 : isPos r1) (s : Sg) : ∀ o, Po_copy r0 r1 s = some o → mm C M_X9_copy 1 0 0 nx nx [.ref r0, .ref r1] (hp nx s) (QV nx o) (XF) := by
  intro o hs
  unfold Po_copy at hs
  refine mm_of rfl rfl (Nat.le_of_ble_eq_true rfl) ?_
  show ww C M_X9_copy 1 0 0 nx (QV nx o) (XF) nx 0 0 0 [(0, .ref r0), (1, .ref r1)] [] (hp nx s)
  refine w_aload_n 0 dX9_copy_0 rfl rfl ?_
  refine w_aload_n 1 dX9_copy_1 rfl rfl ?_
  refine x_getI 9 2 dX9_copy_2 (fxX9_18 rfl) rfl (pos_s0 _ h_r1) (pos_n0 h_r1 hnx) ?_
  refine x_putI 9 2 dX9_copy_5 (poX9_18 rfl) rfl (pos_s0 _ h_r0) (pos_n0 h_r0 hnx) ?_
  refine nam_s hs (fun s1 hs => ?_)
  refine w_aload_n 0 dX9_copy_8 rfl rfl ?_
  refine w_aload_n 1 dX9_copy_9 rfl rfl ?_
  refine x_getI 9 3 dX9_copy_10 (fxX9_22 rfl) rfl (pos_s0 _ h_r1) (pos_n0 h_r1 hnx) ?_
  refine grd_e hs (fun hg2 hs => ?_)
  refine x_putZ 9 3 hg2 dX9_copy_13 (poX9_22 rfl) rfl (pos_s0 _ h_r0) (pos_n0 h_r0 hnx) ?_
  refine nam_s hs (fun s3 hs => ?_)
  refine w_aload_n 0 dX9_copy_16 rfl rfl ?_
  refine w_aload_n 1 dX9_copy_17 rfl rfl ?_
  refine x_getI 9 4 dX9_copy_18 (fxX9_26 rfl) rfl (pos_s0 _ h_r1) (pos_n0 h_r1 hnx) ?_
  refine x_putI 9 4 dX9_copy_21 (poX9_26 rfl) rfl (pos_s0 _ h_r0) (pos_n0 h_r0 hnx) ?_
  refine nam_s hs (fun s4 hs => ?_)
  refine w_aload_n 0 dX9_copy_24 rfl rfl ?_
  refine w_aload_n 1 dX9_copy_25 rfl rfl ?_
  refine x_getI 9 5 dX9_copy_26 (fxX9_29 rfl) rfl (pos_s0 _ h_r1) (pos_n0 h_r1 hnx) ?_
  refine x_putI 9 5 dX9_copy_29 (poX9_29 rfl) rfl (pos_s0 _ h_r0) (pos_n0 h_r0 hnx) ?_
  refine nam_s hs (fun s5 hs => ?_)
  refine w_aload_n 0 dX9_copy_32 rfl rfl ?_
  refine w_aload_n 1 dX9_copy_33 rfl rfl ?_
  refine x_getI 9 6 dX9_copy_34 (fxX9_32 rfl) rfl (pos_s0 _ h_r1) (pos_n0 h_r1 hnx) ?_
  refine x_putI 9 6 dX9_copy_37 (poX9_32 rfl) rfl (pos_s0 _ h_r0) (pos_n0 h_r0 hnx) ?_
  refine nam_s hs (fun s6 hs => ?_)
  refine w_aload_n 1 dX9_copy_40 rfl rfl ?_
  refine x_getR 9 0 (b := (r1 + 1)) dX9_copy_41 (fxX9_9 rfl) rfl (pos_s0 _ h_r1) (pos_n0 h_r1 hnx) (pos_r0 _ h_r1) ?_
  refine x_iconst dX9_copy_44 ?_
  refine w_aload_n 0 dX9_copy_45 rfl rfl ?_
  refine x_getR 9 0 (b := (r0 + 1)) dX9_copy_46 (fxX9_9 rfl) rfl (pos_s0 _ h_r0) (pos_n0 h_r0 hnx) (pos_r0 _ h_r0) ?_
  refine x_iconst dX9_copy_49 ?_
  refine x_bipush dX9_copy_50 (by decide) ?_
  refine x_copy (N := 81) rfl (pos_s1 _ h_r1) (pos_n1 h_r1 hnx) (pos_s1 _ h_r0) (pos_n1 h_r0 hnx) dX9_copy_52 (lkcp_X9_39 rfl) (Nat.le_of_ble_eq_true rfl) (Nat.le_of_ble_eq_true rfl) (Nat.le_of_ble_eq_true rfl) ?_
  refine nam_s hs (fun s7 hs => ?_)
  refine w_aload_n 1 dX9_copy_55 rfl rfl ?_
  refine x_getR 9 1 (b := (r1 + 2)) dX9_copy_56 (fxX9_15 rfl) rfl (pos_s0 _ h_r1) (pos_n0 h_r1 hnx) (pos_r1 _ h_r1) ?_
  refine x_iconst dX9_copy_59 ?_
  refine w_aload_n 0 dX9_copy_60 rfl rfl ?_
  refine x_getR 9 1 (b := (r0 + 2)) dX9_copy_61 (fxX9_15 rfl) rfl (pos_s0 _ h_r0) (pos_n0 h_r0 hnx) (pos_r1 _ h_r0) ?_
  refine x_iconst dX9_copy_64 ?_
  refine x_sipush dX9_copy_65 (by decide) ?_
  refine x_copy (N := 200) rfl (pos_s2 _ h_r1) (pos_n2 h_r1 hnx) (pos_s2 _ h_r0) (pos_n2 h_r0 hnx) dX9_copy_68 (lkcp_X9_39 rfl) (Nat.le_of_ble_eq_true rfl) (Nat.le_of_ble_eq_true rfl) (Nat.le_of_ble_eq_true rfl) ?_
  refine nam_s hs (fun s8 hs => ?_)
  cases hs
  exact w_return rfl dX9_copy_71 rfl (Nat.le_of_ble_eq_true rfl) (Nat.le_of_ble_eq_true rfl) ⟨rfl, rfl⟩
set_option maxRecDepth 100000 in
theorem c_Hi_clear {C : Cx} {nx : Nat} (hnx : 80 ≤ nx)  (s : Sg) : ∀ o, Hi_clear  s = some o → mm C M_X6_clear 0 0 0 nx nx [.ref 16] (hp nx s) (QV nx o) (XF) := by
  intro o hs
  unfold Hi_clear at hs
  refine mm_of rfl rfl (Nat.le_of_ble_eq_true rfl) ?_
  show ww C M_X6_clear 0 0 0 nx (QV nx o) (XF) nx 0 0 0 [(0, .ref 16)] [] (hp nx s)
  refine w_aload_n 0 dX6_clear_0 rfl rfl ?_
  refine x_iconst dX6_clear_1 ?_
  refine x_putI 6 2 dX6_clear_2 (poX6_18 rfl) rfl rfl (lt_of hnx (Nat.le_of_ble_eq_true rfl)) ?_
  refine nam_s hs (fun s1 hs => ?_)
  cases hs
  exact w_return rfl dX6_clear_5 rfl (Nat.le_of_ble_eq_true rfl) (Nat.le_of_ble_eq_true rfl) ⟨rfl, rfl⟩
set_option maxRecDepth 100000 in
theorem c_Hx_load {C : Cx} {nx : Nat} (hnx : 80 ≤ nx)  (s : Sg) : ∀ o, Hx_load  s = some o → mm C M_X11_load 14 0 0 nx nx [.ref 0] (hp nx s) (QI nx o.2 o.1) (XF) := by
  intro o hs
  unfold Hx_load at hs
  refine mm_of rfl rfl (Nat.le_of_ble_eq_true rfl) ?_
  show ww C M_X11_load 14 0 0 nx (QI nx o.2 o.1) (XF) nx 0 0 0 [(0, .ref 0)] [] (hp nx s)
  refine w_aload_n 0 dX11_load_0 rfl rfl ?_
  refine x_getR 11 9 (b := 52) dX11_load_1 (fxX11_65 rfl) rfl rfl (lt_of hnx (Nat.le_of_ble_eq_true rfl)) rfl ?_
  refine x_V_B M_X10_read [] [] hs rfl dX11_load_4 (lkX11_124 _ rfl) (lt_of hnx (Nat.le_of_ble_eq_true rfl)) rfl rfl (Nat.le_of_ble_eq_true rfl) (Nat.le_of_ble_eq_true rfl) (Nat.le_of_ble_eq_true rfl) (Nat.le_of_ble_eq_true rfl) (c_Re_read hnx s) (fun y1 s2 hy1 hs => ?_)
  refine w_istore_n (lv' := [(1, vi y1), (0, .ref 0)]) dX11_load_7 rfl (Nat.le_of_ble_eq_true rfl) rfl ?_
  refine w_aload_n 1 dX11_load_8 rfl rfl ?_
  refine x_getR 11 7 (b := 48) dX11_load_9 (fxX11_53 rfl) rfl rfl (lt_of hnx (Nat.le_of_ble_eq_true rfl)) rfl ?_
  refine x_V_V M_X1_clear [] [] hs rfl dX11_load_12 (lkX11_128 _ rfl) (lt_of hnx (Nat.le_of_ble_eq_true rfl)) rfl rfl (Nat.le_of_ble_eq_true rfl) (Nat.le_of_ble_eq_true rfl) (Nat.le_of_ble_eq_true rfl) (Nat.le_of_ble_eq_true rfl) (c_By_clear hnx 48 (Or.inl rfl) s2) (fun s4 hs4 hs => ?_)
  refine w_iload_n 0 dX11_load_15 rfl rfl ?_
  refine x_ifne hs dX11_load_16 rfl (fun hs => ?_) (fun hs => ?_)
  · refine w_aload_n 1 dX11_load_44 rfl rfl ?_
    refine x_getR 11 2 (b := 10) dX11_load_45 (fxX11_28 rfl) rfl rfl (lt_of hnx (Nat.le_of_ble_eq_true rfl)) rfl ?_
    refine w_aload_n 1 dX11_load_48 rfl rfl ?_
    refine x_getR 11 9 (b := 52) dX11_load_49 (fxX11_65 rfl) rfl rfl (lt_of hnx (Nat.le_of_ble_eq_true rfl)) rfl ?_
    refine x_getR 10 3 (b := 53) dX11_load_52 (fxX11_137 rfl) rfl rfl (lt_of hnx (Nat.le_of_ble_eq_true rfl)) rfl ?_
    refine x_V_V M_X9_copy [.ref 53] [] hs rfl dX11_load_55 (lkX11_140 _ rfl) (lt_of hnx (Nat.le_of_ble_eq_true rfl)) rfl rfl (Nat.le_of_ble_eq_true rfl) (Nat.le_of_ble_eq_true rfl) (Nat.le_of_ble_eq_true rfl) (Nat.le_of_ble_eq_true rfl) (c_Po_copy hnx 10 (show 10 ∈ posL by decide) 53 (show 53 ∈ posL by decide) s4) (fun s6 hs6 hs => ?_)
    refine w_aload_n 1 dX11_load_58 rfl rfl ?_
    refine x_getR 11 0 (b := 1) dX11_load_59 (fxX11_10 rfl) rfl rfl (lt_of hnx (Nat.le_of_ble_eq_true rfl)) rfl ?_
    refine w_aload_n 1 dX11_load_62 rfl rfl ?_
    refine x_getR 11 2 (b := 10) dX11_load_63 (fxX11_28 rfl) rfl rfl (lt_of hnx (Nat.le_of_ble_eq_true rfl)) rfl ?_
    refine x_getI 9 2 dX11_load_66 (fxX11_131 rfl) rfl rfl (lt_of hnx (Nat.le_of_ble_eq_true rfl)) ?_
    refine x_V_V M_X5_fit [vi (gi s6 10 2)] [] hs rfl dX11_load_69 (lkX11_109 _ rfl) (lt_of hnx (Nat.le_of_ble_eq_true rfl)) rfl rfl (Nat.le_of_ble_eq_true rfl) (Nat.le_of_ble_eq_true rfl) (Nat.le_of_ble_eq_true rfl) (Nat.le_of_ble_eq_true rfl) (c_Gr_fit hnx (gi s6 10 2) s6) (fun s8 hs8 hs => ?_)
    refine w_aload_n 1 dX11_load_72 rfl rfl ?_
    refine x_getR 11 4 (b := 16) dX11_load_73 (fxX11_38 rfl) rfl rfl (lt_of hnx (Nat.le_of_ble_eq_true rfl)) rfl ?_
    refine x_V_V M_X6_clear [] [] hs rfl dX11_load_76 (lkX11_144 _ rfl) (lt_of hnx (Nat.le_of_ble_eq_true rfl)) rfl rfl (Nat.le_of_ble_eq_true rfl) (Nat.le_of_ble_eq_true rfl) (Nat.le_of_ble_eq_true rfl) (Nat.le_of_ble_eq_true rfl) (c_Hi_clear hnx s8) (fun s10 hs10 hs => ?_)
    refine w_aload_n 1 dX11_load_79 rfl rfl ?_
    refine x_getR 11 2 (b := 10) dX11_load_80 (fxX11_28 rfl) rfl rfl (lt_of hnx (Nat.le_of_ble_eq_true rfl)) rfl ?_
    refine x_getI 9 2 dX11_load_83 (fxX11_131 rfl) rfl rfl (lt_of hnx (Nat.le_of_ble_eq_true rfl)) ?_
    cases hs
    exact x_ireturn dX11_load_86 rfl rfl (Nat.le_of_ble_eq_true rfl) (Nat.le_of_ble_eq_true rfl) ⟨rfl, rfl⟩
  · refine w_aload_n 1 dX11_load_19 rfl rfl ?_
    refine x_getR 11 0 (b := 1) dX11_load_20 (fxX11_10 rfl) rfl rfl (lt_of hnx (Nat.le_of_ble_eq_true rfl)) rfl ?_
    refine w_aload_n 1 dX11_load_23 rfl rfl ?_
    refine x_getR 11 2 (b := 10) dX11_load_24 (fxX11_28 rfl) rfl rfl (lt_of hnx (Nat.le_of_ble_eq_true rfl)) rfl ?_
    refine x_getI 9 2 dX11_load_27 (fxX11_131 rfl) rfl rfl (lt_of hnx (Nat.le_of_ble_eq_true rfl)) ?_
    refine x_V_V M_X5_fit [vi (gi s4 10 2)] [] hs rfl dX11_load_30 (lkX11_109 _ rfl) (lt_of hnx (Nat.le_of_ble_eq_true rfl)) rfl rfl (Nat.le_of_ble_eq_true rfl) (Nat.le_of_ble_eq_true rfl) (Nat.le_of_ble_eq_true rfl) (Nat.le_of_ble_eq_true rfl) (c_Gr_fit hnx (gi s4 10 2) s4) (fun s12 hs12 hs => ?_)
    refine x_bipush dX11_load_33 (by decide) ?_
    refine w_aload_n 1 dX11_load_35 rfl rfl ?_
    refine x_getR 11 9 (b := 52) dX11_load_36 (fxX11_65 rfl) rfl rfl (lt_of hnx (Nat.le_of_ble_eq_true rfl)) rfl ?_
    refine x_getI 10 9 dX11_load_39 (fxX11_134 rfl) rfl rfl (lt_of hnx (Nat.le_of_ble_eq_true rfl)) ?_
    refine x_isub dX11_load_42 ?_
    cases hs
    exact x_ireturn dX11_load_43 rfl rfl (Nat.le_of_ble_eq_true rfl) (Nat.le_of_ble_eq_true rfl) ⟨rfl, rfl⟩
set_option maxRecDepth 100000 in
theorem q_Po_count_b29 {C : Cx} {nx : Nat} (hnx : 80 ≤ nx) {Qr : Option Value → Hp → Prop} {Qx : String → Hp → Prop}  (r0 : Nat) (h_r0 : isPos r0) (x1 : Int) (x2 : Int) (x3 : Int) (s : Sg) {o : ((Int × Int) ⊕ (Int))} (hs : Po_count_b29 r0 x1 x2 x3 s = some o) (hb : ∀ σ : Int × Int, o = .inl σ → ww C M_X9_count 2 0 0 nx (Qr) (Qx) nx 0 0 4 [(0, .ref r0), (1, vi x1), (2, vi σ.1), (3, vi σ.2)] [] (hp nx s)) (he0 : ∀ ρ : Int, o = .inr ρ → ww C M_X9_count 2 0 0 nx (Qr) (Qx) nx 0 0 35 [(2, vi ρ)] [] (hp nx s)) : ww C M_X9_count 2 0 0 nx (Qr) (Qx) nx 0 0 29 [(0, .ref r0), (1, vi x1), (2, vi x2), (3, vi x3)] [] (hp nx s) := by
  unfold Po_count_b29 at hs
  refine x_iinc (lv' := [(3, vi (x3 + 1)), (0, .ref r0), (1, vi x1), (2, vi x2)]) 3 dX9_count_29 rfl (Nat.le_of_ble_eq_true rfl) rfl ?_
  refine w_goto dX9_count_32 rfl ?_
  refine w_lv (lv' := [(0, .ref r0), (1, vi x1), (2, vi x2), (3, vi (x3 + 1))]) [1, 2, 3, 0] rfl ?_
  cases hs
  exact hb _ rfl
set_option maxRecDepth 100000 in
theorem q_Po_count_t4 {C : Cx} {nx : Nat} (hnx : 80 ≤ nx) {Qr : Option Value → Hp → Prop} {Qx : String → Hp → Prop}  (r0 : Nat) (h_r0 : isPos r0) (x1 : Int) (x2 : Int) (x3 : Int) (s : Sg) {o : ((Int × Int) ⊕ (Int))} (hs : Po_count_t4 r0 x1 x2 x3 s = some o) (hb : ∀ σ : Int × Int, o = .inl σ → ww C M_X9_count 2 0 0 nx (Qr) (Qx) nx 0 0 4 [(0, .ref r0), (1, vi x1), (2, vi σ.1), (3, vi σ.2)] [] (hp nx s)) (he0 : ∀ ρ : Int, o = .inr ρ → ww C M_X9_count 2 0 0 nx (Qr) (Qx) nx 0 0 35 [(2, vi ρ)] [] (hp nx s)) : ww C M_X9_count 2 0 0 nx (Qr) (Qx) nx 0 0 4 [(0, .ref r0), (1, vi x1), (2, vi x2), (3, vi x3)] [] (hp nx s) := by
  unfold Po_count_t4 at hs
  refine w_iload_n 3 dX9_count_4 rfl rfl ?_
  refine w_aload_n 0 dX9_count_5 rfl rfl ?_
  refine x_getI 9 2 dX9_count_6 (fxX9_18 rfl) rfl (pos_s0 _ h_r0) (pos_n0 h_r0 hnx) ?_
  refine w_aload_n 0 dX9_count_9 rfl rfl ?_
  refine x_getI 9 2 dX9_count_10 (fxX9_18 rfl) rfl (pos_s0 _ h_r0) (pos_n0 h_r0 hnx) ?_
  refine x_imul dX9_count_13 ?_
  refine x_icmpge hs dX9_count_14 rfl (fun hs => ?_) (fun hs => ?_)
  · refine w_lv (lv' := [(2, vi x2)]) [2] rfl ?_
    cases hs
    exact he0 _ rfl
  · refine w_aload_n 0 dX9_count_17 rfl rfl ?_
    refine w_iload_n 3 dX9_count_18 rfl rfl ?_
    refine x_V_I M_X9_stone [vi x3] [] hs rfl dX9_count_19 (lkX9_53 _ rfl) (pos_n0 h_r0 hnx) (pos_s0 _ h_r0) rfl (Nat.le_of_ble_eq_true rfl) (Nat.le_of_ble_eq_true rfl) (Nat.le_of_ble_eq_true rfl) (Nat.le_of_ble_eq_true rfl) (c_Po_stone hnx r0 h_r0 x3 s) (fun y1 hy1 hs => ?_)
    refine w_iload_n 1 dX9_count_22 rfl rfl ?_
    refine x_icmpne hs dX9_count_23 rfl (fun hs => ?_) (fun hs => ?_)
    · exact q_Po_count_b29 hnx r0 h_r0 x1 x2 x3 s hs hb he0
    · refine x_iinc (lv' := [(2, vi (x2 + 1)), (0, .ref r0), (1, vi x1), (3, vi x3)]) 2 dX9_count_26 rfl (Nat.le_of_ble_eq_true rfl) rfl ?_
      refine w_lv (lv' := [(0, .ref r0), (1, vi x1), (2, vi (x2 + 1)), (3, vi x3)]) [1, 2, 0, 3] rfl ?_
      exact q_Po_count_b29 hnx r0 h_r0 x1 (x2 + 1) x3 s hs hb he0
set_option maxRecDepth 100000 in
theorem q_Po_count_l4 {C : Cx} {nx : Nat} (hnx : 80 ≤ nx) (r0 : Nat) (h_r0 : isPos r0) (x1 : Int) (x2 : Int) (x3 : Int) (s : Sg) {o : Int} (hs : Po_count_l4 r0 x1 x2 x3 s = some o) : ww C M_X9_count 2 0 0 nx (QI nx s o) (XF) nx 0 0 4 [(0, .ref r0), (1, vi x1), (2, vi x2), (3, vi x3)] [] (hp nx s) := by
  unfold Po_count_l4 at hs
  refine bnd_e hs (fun x2_2 hw hs => ?_)
  have hE : ww C M_X9_count 2 0 0 nx (QI nx s o) (XF) nx 0 0 35 [(2, vi x2_2)] [] (hp nx s) := by
    refine w_iload_n 0 dX9_count_35 rfl rfl ?_
    cases hs
    exact x_ireturn dX9_count_36 rfl rfl (Nat.le_of_ble_eq_true rfl) (Nat.le_of_ble_eq_true rfl) ⟨rfl, rfl⟩
  refine whl_w (P := fun σ => ww C M_X9_count 2 0 0 nx (QI nx s o) (XF) nx 0 0 4 [(0, .ref r0), (1, vi x1), (2, vi σ.1), (3, vi σ.2)] [] (hp nx s)) (E := fun ρ => ρ = x2_2) hw rfl ?_
  intro σ o' hs' hb' he'
  exact q_Po_count_t4 hnx r0 h_r0 x1 σ.1 σ.2 s hs' hb' (fun ρ e => by cases he' _ e; exact hE)
set_option maxRecDepth 100000 in
theorem c_Po_count {C : Cx} {nx : Nat} (hnx : 80 ≤ nx) (r0 : Nat) (h_r0 : isPos r0) (x1 : Int) (s : Sg) : ∀ o, Po_count r0 x1 s = some o → mm C M_X9_count 2 0 0 nx nx [.ref r0, vi x1] (hp nx s) (QI nx s o) (XF) := by
  intro o hs
  unfold Po_count at hs
  refine mm_of rfl rfl (Nat.le_of_ble_eq_true rfl) ?_
  show ww C M_X9_count 2 0 0 nx (QI nx s o) (XF) nx 0 0 0 [(0, .ref r0), (1, vi x1)] [] (hp nx s)
  refine x_iconst dX9_count_0 ?_
  refine w_istore_n (lv' := [(2, vi 0), (0, .ref r0), (1, vi x1)]) dX9_count_1 rfl (Nat.le_of_ble_eq_true rfl) rfl ?_
  refine x_iconst dX9_count_2 ?_
  refine w_istore_n (lv' := [(3, vi 0), (2, vi 0), (0, .ref r0), (1, vi x1)]) dX9_count_3 rfl (Nat.le_of_ble_eq_true rfl) rfl ?_
  refine w_lv (lv' := [(0, .ref r0), (1, vi x1), (2, vi 0), (3, vi 0)]) [2, 3, 1, 0] rfl ?_
  exact q_Po_count_l4 hnx r0 h_r0 x1 0 0 s hs
set_option maxRecDepth 100000 in
theorem c_Hx_winner {C : Cx} {nx : Nat} (hnx : 80 ≤ nx)  (s : Sg) : ∀ o, Hx_winner  s = some o → mm C M_X11_winner 4 0 0 nx nx [.ref 0] (hp nx s) (QI nx o.2 o.1) (XF) := by
  intro o hs
  unfold Hx_winner at hs
  refine mm_of rfl rfl (Nat.le_of_ble_eq_true rfl) ?_
  show ww C M_X11_winner 4 0 0 nx (QI nx o.2 o.1) (XF) nx 0 0 0 [(0, .ref 0)] [] (hp nx s)
  refine w_aload_n 0 dX11_winner_0 rfl rfl ?_
  refine x_getR 11 2 (b := 10) dX11_winner_1 (fxX11_28 rfl) rfl rfl (lt_of hnx (Nat.le_of_ble_eq_true rfl)) rfl ?_
  refine w_aload_n 0 dX11_winner_4 rfl rfl ?_
  refine x_getR 11 1 (b := 5) dX11_winner_5 (fxX11_21 rfl) rfl rfl (lt_of hnx (Nat.le_of_ble_eq_true rfl)) rfl ?_
  refine x_V_B M_X9_winner [.ref 5] [] hs rfl dX11_winner_8 (lkX11_359 _ rfl) (lt_of hnx (Nat.le_of_ble_eq_true rfl)) rfl rfl (Nat.le_of_ble_eq_true rfl) (Nat.le_of_ble_eq_true rfl) (Nat.le_of_ble_eq_true rfl) (Nat.le_of_ble_eq_true rfl) (c_Po_winner hnx 10 (show 10 ∈ posL by decide) s) (fun y1 s2 hy1 hs => ?_)
  cases hs
  exact x_ireturn dX11_winner_11 rfl rfl (Nat.le_of_ble_eq_true rfl) (Nat.le_of_ble_eq_true rfl) ⟨rfl, rfl⟩
set_option maxRecDepth 100000 in
theorem q_Po_moved_b12 {C : Cx} {nx : Nat} (hnx : 80 ≤ nx)  (s : Sg) {o : Int} (hs : Po_moved_b12  s = some o) : ww C M_X9_moved 1 0 0 nx (QI nx s o) (XF) nx 0 0 12 [] [] (hp nx s) := by
  unfold Po_moved_b12 at hs
  refine x_iconst dX9_moved_12 ?_
  refine w_goto dX9_moved_13 rfl ?_
  cases hs
  exact x_ireturn dX9_moved_24 rfl rfl (Nat.le_of_ble_eq_true rfl) (Nat.le_of_ble_eq_true rfl) ⟨rfl, rfl⟩
set_option maxRecDepth 100000 in
theorem c_Po_moved {C : Cx} {nx : Nat} (hnx : 80 ≤ nx) (r0 : Nat) (h_r0 : isPos r0) (x1 : Int) (s : Sg) : ∀ o, Po_moved r0 x1 s = some o → mm C M_X9_moved 1 0 0 nx nx [.ref r0, vi x1] (hp nx s) (QI nx s o) (XF) := by
  intro o hs
  unfold Po_moved at hs
  refine mm_of rfl rfl (Nat.le_of_ble_eq_true rfl) ?_
  show ww C M_X9_moved 1 0 0 nx (QI nx s o) (XF) nx 0 0 0 [(0, .ref r0), (1, vi x1)] [] (hp nx s)
  refine w_iload_n 1 dX9_moved_0 rfl rfl ?_
  refine x_iflt hs dX9_moved_1 rfl (fun hs => ?_) (fun hs => ?_)
  · refine w_lv (lv' := []) [] rfl ?_
    exact q_Po_moved_b12 hnx  s hs
  · refine w_iload_n 1 dX9_moved_4 rfl rfl ?_
    refine w_aload_n 0 dX9_moved_5 rfl rfl ?_
    refine x_getI 9 4 dX9_moved_6 (fxX9_26 rfl) rfl (pos_s0 _ h_r0) (pos_n0 h_r0 hnx) ?_
    refine x_icmplt hs dX9_moved_9 rfl (fun hs => ?_) (fun hs => ?_)
    · refine w_aload_n 0 dX9_moved_16 rfl rfl ?_
      refine x_getR 9 1 (b := (r0 + 2)) dX9_moved_17 (fxX9_15 rfl) rfl (pos_s0 _ h_r0) (pos_n0 h_r0 hnx) (pos_r1 _ h_r0) ?_
      refine w_iload_n 1 dX9_moved_20 rfl rfl ?_
      refine x_N_I M_X11_at [.ref (r0 + 2), vi x1] [] hs rfl dX9_moved_21 (lkX9_45 _ rfl) (Nat.le_of_ble_eq_true rfl) (Nat.le_of_ble_eq_true rfl) (Nat.le_of_ble_eq_true rfl) (Nat.le_of_ble_eq_true rfl) (c_Hx_at hnx (r0 + 2) (Or.inl (rowW_of (pos_s2 _ h_r0) (pos_n2 h_r0 hnx))) x1 s) (fun y1 hy1 hs => ?_)
      cases hs
      exact x_ireturn dX9_moved_24 rfl rfl (Nat.le_of_ble_eq_true rfl) (Nat.le_of_ble_eq_true rfl) ⟨rfl, rfl⟩
    · refine w_lv (lv' := []) [] rfl ?_
      exact q_Po_moved_b12 hnx  s hs
set_option maxRecDepth 100000 in
theorem q_Hx_canSwap_b25 {C : Cx} {nx : Nat} (hnx : 80 ≤ nx) (t0 : Int) (s : Sg) {o : Int × Sg} (hs : Hx_canSwap_b25 t0 s = some o) : ww C M_X11_canSwap 5 0 0 nx (QI nx o.2 o.1) (XF) nx 0 0 25 [(0, .ref 0)] [vi t0] (hp nx s) := by
  unfold Hx_canSwap_b25 at hs
  refine w_istore_n (lv' := [(1, vi t0), (0, .ref 0)]) dX11_canSwap_25 rfl (Nat.le_of_ble_eq_true rfl) rfl ?_
  refine w_aload_n 1 dX11_canSwap_26 rfl rfl ?_
  refine x_getR 11 2 (b := 10) dX11_canSwap_27 (fxX11_28 rfl) rfl rfl (lt_of hnx (Nat.le_of_ble_eq_true rfl)) rfl ?_
  refine x_getI 9 3 dX11_canSwap_30 (fxX11_362 rfl) rfl rfl (lt_of hnx (Nat.le_of_ble_eq_true rfl)) ?_
  refine x_ifeq hs dX11_canSwap_33 rfl (fun hs => ?_) (fun hs => ?_)
  · refine x_iconst dX11_canSwap_91 ?_
    cases hs
    exact x_zreturn (Or.inl rfl) dX11_canSwap_92 rfl rfl (Nat.le_of_ble_eq_true rfl) (Nat.le_of_ble_eq_true rfl) ⟨rfl, rfl⟩
  · refine w_aload_n 1 dX11_canSwap_36 rfl rfl ?_
    refine x_getR 11 2 (b := 10) dX11_canSwap_37 (fxX11_28 rfl) rfl rfl (lt_of hnx (Nat.le_of_ble_eq_true rfl)) rfl ?_
    refine x_getI 9 4 dX11_canSwap_40 (fxX11_155 rfl) rfl rfl (lt_of hnx (Nat.le_of_ble_eq_true rfl)) ?_
    refine x_iconst dX11_canSwap_43 ?_
    refine x_icmpne hs dX11_canSwap_44 rfl (fun hs => ?_) (fun hs => ?_)
    · refine x_iconst dX11_canSwap_91 ?_
      cases hs
      exact x_zreturn (Or.inl rfl) dX11_canSwap_92 rfl rfl (Nat.le_of_ble_eq_true rfl) (Nat.le_of_ble_eq_true rfl) ⟨rfl, rfl⟩
    · refine w_iload_n 0 dX11_canSwap_47 rfl rfl ?_
      refine x_ifeq hs dX11_canSwap_48 rfl (fun hs => ?_) (fun hs => ?_)
      · refine x_iconst dX11_canSwap_91 ?_
        cases hs
        exact x_zreturn (Or.inl rfl) dX11_canSwap_92 rfl rfl (Nat.le_of_ble_eq_true rfl) (Nat.le_of_ble_eq_true rfl) ⟨rfl, rfl⟩
      · refine w_aload_n 1 dX11_canSwap_51 rfl rfl ?_
        refine x_getR 11 2 (b := 10) dX11_canSwap_52 (fxX11_28 rfl) rfl rfl (lt_of hnx (Nat.le_of_ble_eq_true rfl)) rfl ?_
        refine w_aload_n 1 dX11_canSwap_55 rfl rfl ?_
        refine x_getR 11 2 (b := 10) dX11_canSwap_56 (fxX11_28 rfl) rfl rfl (lt_of hnx (Nat.le_of_ble_eq_true rfl)) rfl ?_
        refine x_iconst dX11_canSwap_59 ?_
        refine x_V_I M_X9_moved [vi 0] [.ref 10] hs rfl dX11_canSwap_60 (lkX11_309 _ rfl) (lt_of hnx (Nat.le_of_ble_eq_true rfl)) rfl rfl (Nat.le_of_ble_eq_true rfl) (Nat.le_of_ble_eq_true rfl) (Nat.le_of_ble_eq_true rfl) (Nat.le_of_ble_eq_true rfl) (c_Po_moved hnx 10 (show 10 ∈ posL by decide) 0 s) (fun y2 hy2 hs => ?_)
        refine x_V_I M_X9_stone [vi y2] [] hs rfl dX11_canSwap_63 (lkX11_183 _ rfl) (lt_of hnx (Nat.le_of_ble_eq_true rfl)) rfl rfl (Nat.le_of_ble_eq_true rfl) (Nat.le_of_ble_eq_true rfl) (Nat.le_of_ble_eq_true rfl) (Nat.le_of_ble_eq_true rfl) (c_Po_stone hnx 10 (show 10 ∈ posL by decide) y2 s) (fun y3 hy3 hs => ?_)
        refine w_aload_n 1 dX11_canSwap_66 rfl rfl ?_
        refine x_getR 11 2 (b := 10) dX11_canSwap_67 (fxX11_28 rfl) rfl rfl (lt_of hnx (Nat.le_of_ble_eq_true rfl)) rfl ?_
        refine x_getI 9 5 dX11_canSwap_70 (fxX11_158 rfl) rfl rfl (lt_of hnx (Nat.le_of_ble_eq_true rfl)) ?_
        refine x_S_I M_X11_otherSide [vi (gi s 10 5)] [vi y3] hs rfl dX11_canSwap_73 (lkX11_250 _ rfl) (Nat.le_of_ble_eq_true rfl) (Nat.le_of_ble_eq_true rfl) (Nat.le_of_ble_eq_true rfl) (Nat.le_of_ble_eq_true rfl) (c_Hx_otherSide hnx (gi s 10 5) s) (fun y4 hy4 hs => ?_)
        refine x_icmpne hs dX11_canSwap_76 rfl (fun hs => ?_) (fun hs => ?_)
        · refine x_iconst dX11_canSwap_91 ?_
          cases hs
          exact x_zreturn (Or.inl rfl) dX11_canSwap_92 rfl rfl (Nat.le_of_ble_eq_true rfl) (Nat.le_of_ble_eq_true rfl) ⟨rfl, rfl⟩
        · refine w_aload_n 1 dX11_canSwap_79 rfl rfl ?_
          refine x_V_B M_X11_winner [] [] hs rfl dX11_canSwap_80 (lkX11_161 _ rfl) (lt_of hnx (Nat.le_of_ble_eq_true rfl)) rfl rfl (Nat.le_of_ble_eq_true rfl) (Nat.le_of_ble_eq_true rfl) (Nat.le_of_ble_eq_true rfl) (Nat.le_of_ble_eq_true rfl) (c_Hx_winner hnx s) (fun y5 s6 hy5 hs => ?_)
          refine x_iconst dX11_canSwap_83 ?_
          refine x_icmpne hs dX11_canSwap_84 rfl (fun hs => ?_) (fun hs => ?_)
          · refine x_iconst dX11_canSwap_91 ?_
            cases hs
            exact x_zreturn (Or.inl rfl) dX11_canSwap_92 rfl rfl (Nat.le_of_ble_eq_true rfl) (Nat.le_of_ble_eq_true rfl) ⟨rfl, rfl⟩
          · refine x_iconst dX11_canSwap_87 ?_
            refine w_goto dX11_canSwap_88 rfl ?_
            cases hs
            exact x_zreturn (Or.inr rfl) dX11_canSwap_92 rfl rfl (Nat.le_of_ble_eq_true rfl) (Nat.le_of_ble_eq_true rfl) ⟨rfl, rfl⟩
set_option maxRecDepth 100000 in
theorem c_Hx_canSwap {C : Cx} {nx : Nat} (hnx : 80 ≤ nx)  (s : Sg) : ∀ o, Hx_canSwap  s = some o → mm C M_X11_canSwap 5 0 0 nx nx [.ref 0] (hp nx s) (QI nx o.2 o.1) (XF) := by
  intro o hs
  unfold Hx_canSwap at hs
  refine mm_of rfl rfl (Nat.le_of_ble_eq_true rfl) ?_
  show ww C M_X11_canSwap 5 0 0 nx (QI nx o.2 o.1) (XF) nx 0 0 0 [(0, .ref 0)] [] (hp nx s)
  refine w_aload_n 0 dX11_canSwap_0 rfl rfl ?_
  refine x_getR 11 0 (b := 1) dX11_canSwap_1 (fxX11_10 rfl) rfl rfl (lt_of hnx (Nat.le_of_ble_eq_true rfl)) rfl ?_
  refine x_getI 5 4 dX11_canSwap_4 (fxX11_275 rfl) rfl rfl (lt_of hnx (Nat.le_of_ble_eq_true rfl)) ?_
  refine w_aload_n 0 dX11_canSwap_7 rfl rfl ?_
  refine x_getR 11 2 (b := 10) dX11_canSwap_8 (fxX11_28 rfl) rfl rfl (lt_of hnx (Nat.le_of_ble_eq_true rfl)) rfl ?_
  refine x_iconst dX11_canSwap_11 ?_
  refine x_V_I M_X9_count [vi (-1)] [vi (gi s 1 4)] hs rfl dX11_canSwap_12 (lkX11_151 _ rfl) (lt_of hnx (Nat.le_of_ble_eq_true rfl)) rfl rfl (Nat.le_of_ble_eq_true rfl) (Nat.le_of_ble_eq_true rfl) (Nat.le_of_ble_eq_true rfl) (Nat.le_of_ble_eq_true rfl) (c_Po_count hnx 10 (show 10 ∈ posL by decide) (-1) s) (fun y1 hy1 hs => ?_)
  refine x_isub dX11_canSwap_15 ?_
  refine x_iconst dX11_canSwap_16 ?_
  refine x_icmpne hs dX11_canSwap_17 rfl (fun hs => ?_) (fun hs => ?_)
  · refine x_iconst dX11_canSwap_24 ?_
    exact q_Hx_canSwap_b25 hnx 0 s hs
  · refine x_iconst dX11_canSwap_20 ?_
    refine w_goto dX11_canSwap_21 rfl ?_
    exact q_Hx_canSwap_b25 hnx 1 s hs
set_option maxRecDepth 100000 in
theorem c_Hx_size {C : Cx} {nx : Nat} (hnx : 80 ≤ nx) (x1 : Int) (s : Sg) : ∀ o, Hx_size x1 s = some o → mm C M_X11_size 9 0 0 nx nx [.ref 0, vi x1] (hp nx s) (QT nx o) (XF) := by
  intro o hs
  unfold Hx_size at hs
  refine mm_of rfl rfl (Nat.le_of_ble_eq_true rfl) ?_
  show ww C M_X11_size 9 0 0 nx (QT nx o) (XF) nx 0 0 0 [(0, .ref 0), (1, vi x1)] [] (hp nx s)
  refine w_iload_n 1 dX11_size_0 rfl rfl ?_
  refine ifEq_c hs (fun hR2 hz1 hs => ?_) (fun hR2 hz1 hs => ?_)
  · refine x_tableIn 0 hz1 (by unfold R; omega) dX11_size_1 (by decide) (by decide) rfl rfl ?_
    refine w_aload_n 0 dX11_size_56 rfl rfl ?_
    refine x_getR 11 2 (b := 10) dX11_size_57 (fxX11_28 rfl) rfl rfl (lt_of hnx (Nat.le_of_ble_eq_true rfl)) rfl ?_
    refine x_getI 9 2 dX11_size_60 (fxX11_131 rfl) rfl rfl (lt_of hnx (Nat.le_of_ble_eq_true rfl)) ?_
    cases hs
    exact x_ireturn dX11_size_63 rfl rfl (Nat.le_of_ble_eq_true rfl) (Nat.le_of_ble_eq_true rfl) ⟨_, rfl, rfl, rfl⟩
  refine ifEq_c hs (fun hR5 hz4 hs => ?_) (fun hR5 hz4 hs => ?_)
  · refine x_tableIn 1 hz4 (by unfold R; omega) dX11_size_1 (by decide) (by decide) rfl rfl ?_
    refine w_aload_n 0 dX11_size_64 rfl rfl ?_
    refine x_getR 11 2 (b := 10) dX11_size_65 (fxX11_28 rfl) rfl rfl (lt_of hnx (Nat.le_of_ble_eq_true rfl)) rfl ?_
    refine x_iconst dX11_size_68 ?_
    refine x_V_I M_X9_count [vi 0] [] hs rfl dX11_size_69 (lkX11_151 _ rfl) (lt_of hnx (Nat.le_of_ble_eq_true rfl)) rfl rfl (Nat.le_of_ble_eq_true rfl) (Nat.le_of_ble_eq_true rfl) (Nat.le_of_ble_eq_true rfl) (Nat.le_of_ble_eq_true rfl) (c_Po_count hnx 10 (show 10 ∈ posL by decide) 0 s) (fun y3 hy3 hs => ?_)
    cases hs
    exact x_ireturn dX11_size_72 rfl rfl (Nat.le_of_ble_eq_true rfl) (Nat.le_of_ble_eq_true rfl) ⟨_, rfl, rfl, rfl⟩
  refine ifEq_c hs (fun hR8 hz7 hs => ?_) (fun hR8 hz7 hs => ?_)
  · refine x_tableIn 2 hz7 (by unfold R; omega) dX11_size_1 (by decide) (by decide) rfl rfl ?_
    refine w_aload_n 0 dX11_size_73 rfl rfl ?_
    refine x_getR 11 2 (b := 10) dX11_size_74 (fxX11_28 rfl) rfl rfl (lt_of hnx (Nat.le_of_ble_eq_true rfl)) rfl ?_
    refine x_iconst dX11_size_77 ?_
    refine x_V_I M_X9_count [vi 1] [] hs rfl dX11_size_78 (lkX11_151 _ rfl) (lt_of hnx (Nat.le_of_ble_eq_true rfl)) rfl rfl (Nat.le_of_ble_eq_true rfl) (Nat.le_of_ble_eq_true rfl) (Nat.le_of_ble_eq_true rfl) (Nat.le_of_ble_eq_true rfl) (c_Po_count hnx 10 (show 10 ∈ posL by decide) 1 s) (fun y6 hy6 hs => ?_)
    cases hs
    exact x_ireturn dX11_size_81 rfl rfl (Nat.le_of_ble_eq_true rfl) (Nat.le_of_ble_eq_true rfl) ⟨_, rfl, rfl, rfl⟩
  refine ifEq_c hs (fun hR11 hz10 hs => ?_) (fun hR11 hz10 hs => ?_)
  · refine x_tableIn 3 hz10 (by unfold R; omega) dX11_size_1 (by decide) (by decide) rfl rfl ?_
    refine w_aload_n 0 dX11_size_82 rfl rfl ?_
    refine x_getR 11 2 (b := 10) dX11_size_83 (fxX11_28 rfl) rfl rfl (lt_of hnx (Nat.le_of_ble_eq_true rfl)) rfl ?_
    refine x_iconst dX11_size_86 ?_
    refine x_V_I M_X9_count [vi (-1)] [] hs rfl dX11_size_87 (lkX11_151 _ rfl) (lt_of hnx (Nat.le_of_ble_eq_true rfl)) rfl rfl (Nat.le_of_ble_eq_true rfl) (Nat.le_of_ble_eq_true rfl) (Nat.le_of_ble_eq_true rfl) (Nat.le_of_ble_eq_true rfl) (c_Po_count hnx 10 (show 10 ∈ posL by decide) (-1) s) (fun y9 hy9 hs => ?_)
    cases hs
    exact x_ireturn dX11_size_90 rfl rfl (Nat.le_of_ble_eq_true rfl) (Nat.le_of_ble_eq_true rfl) ⟨_, rfl, rfl, rfl⟩
  refine ifEq_c hs (fun hR13 hz12 hs => ?_) (fun hR13 hz12 hs => ?_)
  · refine x_tableIn 4 hz12 (by unfold R; omega) dX11_size_1 (by decide) (by decide) rfl rfl ?_
    refine w_aload_n 0 dX11_size_91 rfl rfl ?_
    refine x_getR 11 2 (b := 10) dX11_size_92 (fxX11_28 rfl) rfl rfl (lt_of hnx (Nat.le_of_ble_eq_true rfl)) rfl ?_
    refine x_getI 9 4 dX11_size_95 (fxX11_155 rfl) rfl rfl (lt_of hnx (Nat.le_of_ble_eq_true rfl)) ?_
    cases hs
    exact x_ireturn dX11_size_98 rfl rfl (Nat.le_of_ble_eq_true rfl) (Nat.le_of_ble_eq_true rfl) ⟨_, rfl, rfl, rfl⟩
  refine ifEq_c hs (fun hR15 hz14 hs => ?_) (fun hR15 hz14 hs => ?_)
  · refine x_tableIn 5 hz14 (by unfold R; omega) dX11_size_1 (by decide) (by decide) rfl rfl ?_
    refine w_aload_n 0 dX11_size_99 rfl rfl ?_
    refine x_getR 11 2 (b := 10) dX11_size_100 (fxX11_28 rfl) rfl rfl (lt_of hnx (Nat.le_of_ble_eq_true rfl)) rfl ?_
    refine x_getI 9 5 dX11_size_103 (fxX11_158 rfl) rfl rfl (lt_of hnx (Nat.le_of_ble_eq_true rfl)) ?_
    cases hs
    exact x_ireturn dX11_size_106 rfl rfl (Nat.le_of_ble_eq_true rfl) (Nat.le_of_ble_eq_true rfl) ⟨_, rfl, rfl, rfl⟩
  refine ifEq_c hs (fun hR19 hz18 hs => ?_) (fun hR19 hz18 hs => ?_)
  · refine x_tableIn 6 hz18 (by unfold R; omega) dX11_size_1 (by decide) (by decide) rfl rfl ?_
    refine w_aload_n 0 dX11_size_107 rfl rfl ?_
    refine x_V_B M_X11_winner [] [] hs rfl dX11_size_108 (lkX11_161 _ rfl) (lt_of hnx (Nat.le_of_ble_eq_true rfl)) rfl rfl (Nat.le_of_ble_eq_true rfl) (Nat.le_of_ble_eq_true rfl) (Nat.le_of_ble_eq_true rfl) (Nat.le_of_ble_eq_true rfl) (c_Hx_winner hnx s) (fun y16 s17 hy16 hs => ?_)
    cases hs
    exact x_ireturn dX11_size_111 rfl rfl (Nat.le_of_ble_eq_true rfl) (Nat.le_of_ble_eq_true rfl) ⟨_, rfl, rfl, rfl⟩
  refine ifEq_c hs (fun hR23 hz22 hs => ?_) (fun hR23 hz22 hs => ?_)
  · refine x_tableIn 7 hz22 (by unfold R; omega) dX11_size_1 (by decide) (by decide) rfl rfl ?_
    refine w_aload_n 0 dX11_size_112 rfl rfl ?_
    refine x_V_B M_X11_canSwap [] [] hs rfl dX11_size_113 (lkX11_165 _ rfl) (lt_of hnx (Nat.le_of_ble_eq_true rfl)) rfl rfl (Nat.le_of_ble_eq_true rfl) (Nat.le_of_ble_eq_true rfl) (Nat.le_of_ble_eq_true rfl) (Nat.le_of_ble_eq_true rfl) (c_Hx_canSwap hnx s) (fun y20 s21 hy20 hs => ?_)
    refine x_ifeq hs dX11_size_116 rfl (fun hs => ?_) (fun hs => ?_)
    · refine x_iconst dX11_size_123 ?_
      cases hs
      exact x_ireturn dX11_size_124 rfl rfl (Nat.le_of_ble_eq_true rfl) (Nat.le_of_ble_eq_true rfl) ⟨_, rfl, rfl, rfl⟩
    · refine x_iconst dX11_size_119 ?_
      refine w_goto dX11_size_120 rfl ?_
      cases hs
      exact x_ireturn dX11_size_124 rfl rfl (Nat.le_of_ble_eq_true rfl) (Nat.le_of_ble_eq_true rfl) ⟨_, rfl, rfl, rfl⟩
  refine ifEq_c hs (fun hR25 hz24 hs => ?_) (fun hR25 hz24 hs => ?_)
  · refine x_tableIn 8 hz24 (by unfold R; omega) dX11_size_1 (by decide) (by decide) rfl rfl ?_
    refine w_aload_n 0 dX11_size_125 rfl rfl ?_
    refine x_getR 11 2 (b := 10) dX11_size_126 (fxX11_28 rfl) rfl rfl (lt_of hnx (Nat.le_of_ble_eq_true rfl)) rfl ?_
    refine x_getI 9 6 dX11_size_129 (fxX11_168 rfl) rfl rfl (lt_of hnx (Nat.le_of_ble_eq_true rfl)) ?_
    cases hs
    exact x_ireturn dX11_size_132 rfl rfl (Nat.le_of_ble_eq_true rfl) (Nat.le_of_ble_eq_true rfl) ⟨_, rfl, rfl, rfl⟩
  refine ifEq_c hs (fun hR27 hz26 hs => ?_) (fun hR27 hz26 hs => ?_)
  · refine x_tableIn 9 hz26 (by unfold R; omega) dX11_size_1 (by decide) (by decide) rfl rfl ?_
    refine w_aload_n 0 dX11_size_133 rfl rfl ?_
    refine x_getR 11 4 (b := 16) dX11_size_134 (fxX11_38 rfl) rfl rfl (lt_of hnx (Nat.le_of_ble_eq_true rfl)) rfl ?_
    refine x_getI 6 2 dX11_size_137 (fxX11_171 rfl) rfl rfl (lt_of hnx (Nat.le_of_ble_eq_true rfl)) ?_
    cases hs
    exact x_ireturn dX11_size_140 rfl rfl (Nat.le_of_ble_eq_true rfl) (Nat.le_of_ble_eq_true rfl) ⟨_, rfl, rfl, rfl⟩
  refine x_tableOut hR27 dX11_size_1 (by omega) rfl ?_
  cases hs
set_option maxRecDepth 100000 in
theorem q_Hx_requireCell_b15 {C : Cx} {nx : Nat} (hnx : 80 ≤ nx)  (s : Sg) {o : (Nat ⊕ Int) × Sg} (hs : Hx_requireCell_b15  s = some o) : ww C M_X11_requireCell 9 0 0 nx (QTV nx o) (XF) nx 0 0 15 [] [] (hp nx s) := by
  unfold Hx_requireCell_b15 at hs
  cases hs
set_option maxRecDepth 100000 in
theorem c_Hx_requireCell {C : Cx} {nx : Nat} (hnx : 80 ≤ nx) (x1 : Int) (s : Sg) : ∀ o, Hx_requireCell x1 s = some o → mm C M_X11_requireCell 9 0 0 nx nx [.ref 0, vi x1] (hp nx s) (QTV nx o) (XF) := by
  intro o hs
  unfold Hx_requireCell at hs
  refine mm_of rfl rfl (Nat.le_of_ble_eq_true rfl) ?_
  show ww C M_X11_requireCell 9 0 0 nx (QTV nx o) (XF) nx 0 0 0 [(0, .ref 0), (1, vi x1)] [] (hp nx s)
  refine w_iload_n 1 dX11_requireCell_0 rfl rfl ?_
  refine x_iflt hs dX11_requireCell_1 rfl (fun hs => ?_) (fun hs => ?_)
  · refine w_lv (lv' := []) [] rfl ?_
    exact q_Hx_requireCell_b15 hnx  s hs
  · refine w_iload_n 1 dX11_requireCell_4 rfl rfl ?_
    refine w_aload_n 0 dX11_requireCell_5 rfl rfl ?_
    refine x_getR 11 0 (b := 1) dX11_requireCell_6 (fxX11_10 rfl) rfl rfl (lt_of hnx (Nat.le_of_ble_eq_true rfl)) rfl ?_
    refine x_getI 5 4 dX11_requireCell_9 (fxX11_275 rfl) rfl rfl (lt_of hnx (Nat.le_of_ble_eq_true rfl)) ?_
    refine x_icmplt hs dX11_requireCell_12 rfl (fun hs => ?_) (fun hs => ?_)
    · cases hs
      exact w_return rfl dX11_requireCell_26 rfl (Nat.le_of_ble_eq_true rfl) (Nat.le_of_ble_eq_true rfl) ⟨_, rfl, rfl, rfl⟩
    · refine w_lv (lv' := []) [] rfl ?_
      exact q_Hx_requireCell_b15 hnx  s hs
set_option maxRecDepth 100000 in
theorem c_Hx_cell {C : Cx} {nx : Nat} (hnx : 80 ≤ nx) (x1 : Int) (s : Sg) : ∀ o, Hx_cell x1 s = some o → mm C M_X11_cell 10 0 0 nx nx [.ref 0, vi x1] (hp nx s) (QT nx o) (XF) := by
  intro o hs
  unfold Hx_cell at hs
  refine mm_of rfl rfl (Nat.le_of_ble_eq_true rfl) ?_
  show ww C M_X11_cell 10 0 0 nx (QT nx o) (XF) nx 0 0 0 [(0, .ref 0), (1, vi x1)] [] (hp nx s)
  refine w_aload_n 0 dX11_cell_0 rfl rfl ?_
  refine w_iload_n 1 dX11_cell_1 rfl rfl ?_
  refine x_V_U M_X11_requireCell [vi x1] [] hs rfl dX11_cell_2 (lkX11_180 _ rfl) (lt_of hnx (Nat.le_of_ble_eq_true rfl)) rfl rfl (Nat.le_of_ble_eq_true rfl) (Nat.le_of_ble_eq_true rfl) (Nat.le_of_ble_eq_true rfl) (Nat.le_of_ble_eq_true rfl) (c_Hx_requireCell hnx x1 s) (fun y1 s2 hy1 hs => ?_)
  refine w_aload_n 0 dX11_cell_5 rfl rfl ?_
  refine x_getR 11 2 (b := 10) dX11_cell_6 (fxX11_28 rfl) rfl rfl (lt_of hnx (Nat.le_of_ble_eq_true rfl)) rfl ?_
  refine w_iload_n 1 dX11_cell_9 rfl rfl ?_
  refine x_V_I M_X9_stone [vi x1] [] hs rfl dX11_cell_10 (lkX11_183 _ rfl) (lt_of hnx (Nat.le_of_ble_eq_true rfl)) rfl rfl (Nat.le_of_ble_eq_true rfl) (Nat.le_of_ble_eq_true rfl) (Nat.le_of_ble_eq_true rfl) (Nat.le_of_ble_eq_true rfl) (c_Po_stone hnx 10 (show 10 ∈ posL by decide) x1 s2) (fun y3 hy3 hs => ?_)
  cases hs
  exact x_ireturn dX11_cell_13 rfl rfl (Nat.le_of_ble_eq_true rfl) (Nat.le_of_ble_eq_true rfl) ⟨_, rfl, rfl, rfl⟩
set_option maxRecDepth 100000 in
theorem c_Hx_neighbour {C : Cx} {nx : Nat} (hnx : 80 ≤ nx) (x1 : Int) (x2 : Int) (s : Sg) : ∀ o, Hx_neighbour x1 x2 s = some o → mm C M_X11_neighbour 10 0 0 nx nx [.ref 0, vi x1, vi x2] (hp nx s) (QT nx o) (XF) := by
  intro o hs
  unfold Hx_neighbour at hs
  refine mm_of rfl rfl (Nat.le_of_ble_eq_true rfl) ?_
  show ww C M_X11_neighbour 10 0 0 nx (QT nx o) (XF) nx 0 0 0 [(0, .ref 0), (1, vi x1), (2, vi x2)] [] (hp nx s)
  refine w_aload_n 0 dX11_neighbour_0 rfl rfl ?_
  refine w_iload_n 1 dX11_neighbour_1 rfl rfl ?_
  refine x_V_U M_X11_requireCell [vi x1] [] hs rfl dX11_neighbour_2 (lkX11_180 _ rfl) (lt_of hnx (Nat.le_of_ble_eq_true rfl)) rfl rfl (Nat.le_of_ble_eq_true rfl) (Nat.le_of_ble_eq_true rfl) (Nat.le_of_ble_eq_true rfl) (Nat.le_of_ble_eq_true rfl) (c_Hx_requireCell hnx x1 s) (fun y1 s2 hy1 hs => ?_)
  refine w_aload_n 0 dX11_neighbour_5 rfl rfl ?_
  refine x_getR 11 0 (b := 1) dX11_neighbour_6 (fxX11_10 rfl) rfl rfl (lt_of hnx (Nat.le_of_ble_eq_true rfl)) rfl ?_
  refine w_iload_n 1 dX11_neighbour_9 rfl rfl ?_
  refine w_iload_n 2 dX11_neighbour_10 rfl rfl ?_
  refine x_V_I M_X5_near [vi x1, vi x2] [] hs rfl dX11_neighbour_11 (lkX11_186 _ rfl) (lt_of hnx (Nat.le_of_ble_eq_true rfl)) rfl rfl (Nat.le_of_ble_eq_true rfl) (Nat.le_of_ble_eq_true rfl) (Nat.le_of_ble_eq_true rfl) (Nat.le_of_ble_eq_true rfl) (c_Gr_near hnx x1 x2 s2) (fun y3 hy3 hs => ?_)
  cases hs
  exact x_ireturn dX11_neighbour_14 rfl rfl (Nat.le_of_ble_eq_true rfl) (Nat.le_of_ble_eq_true rfl) ⟨_, rfl, rfl, rfl⟩
set_option maxRecDepth 100000 in
theorem q_Hx_requireRange_b10 {C : Cx} {nx : Nat} (hnx : 80 ≤ nx)  (s : Sg) {o : (Nat ⊕ Int) × Sg} (hs : Hx_requireRange_b10  s = some o) : ww C M_X11_requireRange 9 0 0 nx (QTV nx o) (XF) nx 0 0 10 [] [] (hp nx s) := by
  unfold Hx_requireRange_b10 at hs
  cases hs
set_option maxRecDepth 100000 in
theorem c_Hx_requireRange {C : Cx} {nx : Nat} (hnx : 80 ≤ nx) (x0 : Int) (x1 : Int) (x2 : Int) (s : Sg) : ∀ o, Hx_requireRange x0 x1 x2 s = some o → mm C M_X11_requireRange 9 0 0 nx nx [vi x0, vi x1, vi x2] (hp nx s) (QTV nx o) (XF) := by
  intro o hs
  unfold Hx_requireRange at hs
  refine mm_of rfl rfl (Nat.le_of_ble_eq_true rfl) ?_
  show ww C M_X11_requireRange 9 0 0 nx (QTV nx o) (XF) nx 0 0 0 [(0, vi x0), (1, vi x1), (2, vi x2)] [] (hp nx s)
  refine w_iload_n 0 dX11_requireRange_0 rfl rfl ?_
  refine w_iload_n 1 dX11_requireRange_1 rfl rfl ?_
  refine x_icmplt hs dX11_requireRange_2 rfl (fun hs => ?_) (fun hs => ?_)
  · refine w_lv (lv' := []) [] rfl ?_
    exact q_Hx_requireRange_b10 hnx  s hs
  · refine w_iload_n 0 dX11_requireRange_5 rfl rfl ?_
    refine w_iload_n 2 dX11_requireRange_6 rfl rfl ?_
    refine x_icmple hs dX11_requireRange_7 rfl (fun hs => ?_) (fun hs => ?_)
    · cases hs
      exact w_return rfl dX11_requireRange_21 rfl (Nat.le_of_ble_eq_true rfl) (Nat.le_of_ble_eq_true rfl) ⟨_, rfl, rfl, rfl⟩
    · refine w_lv (lv' := []) [] rfl ?_
      exact q_Hx_requireRange_b10 hnx  s hs
set_option maxRecDepth 100000 in
theorem q_Li_isBeside_b32 {C : Cx} {nx : Nat} (hnx : 80 ≤ nx) {Qr : Option Value → Hp → Prop} {Qx : String → Hp → Prop}  (x1 : Int) (x2 : Int) (x3 : Int) (s : Sg) {o : ((Int) ⊕ ((Unit) ⊕ (Unit)))} (hs : Li_isBeside_b32 x1 x2 x3 s = some o) (hb : ∀ σ : Int, o = .inl σ → ww C M_X7_isBeside 2 0 0 nx (Qr) (Qx) nx 0 0 2 [(0, .ref 5), (1, vi x1), (2, vi x2), (3, vi σ)] [] (hp nx s)) (he0 : ∀ ρ : Unit, o = .inr (.inl ρ) → ww C M_X7_isBeside 2 0 0 nx (Qr) (Qx) nx 0 0 30 [] [] (hp nx s)) (he1 : ∀ ρ : Unit, o = .inr (.inr ρ) → ww C M_X7_isBeside 2 0 0 nx (Qr) (Qx) nx 0 0 38 [] [] (hp nx s)) : ww C M_X7_isBeside 2 0 0 nx (Qr) (Qx) nx 0 0 32 [(0, .ref 5), (1, vi x1), (2, vi x2), (3, vi x3)] [] (hp nx s) := by
  unfold Li_isBeside_b32 at hs
  refine x_iinc (lv' := [(3, vi (x3 + 1)), (0, .ref 5), (1, vi x1), (2, vi x2)]) 3 dX7_isBeside_32 rfl (Nat.le_of_ble_eq_true rfl) rfl ?_
  refine w_goto dX7_isBeside_35 rfl ?_
  refine w_lv (lv' := [(0, .ref 5), (1, vi x1), (2, vi x2), (3, vi (x3 + 1))]) [1, 2, 3, 0] rfl ?_
  cases hs
  exact hb _ rfl
set_option maxRecDepth 100000 in
theorem q_Li_isBeside_t2 {C : Cx} {nx : Nat} (hnx : 80 ≤ nx) {Qr : Option Value → Hp → Prop} {Qx : String → Hp → Prop}  (x1 : Int) (x2 : Int) (x3 : Int) (s : Sg) {o : ((Int) ⊕ ((Unit) ⊕ (Unit)))} (hs : Li_isBeside_t2 x1 x2 x3 s = some o) (hb : ∀ σ : Int, o = .inl σ → ww C M_X7_isBeside 2 0 0 nx (Qr) (Qx) nx 0 0 2 [(0, .ref 5), (1, vi x1), (2, vi x2), (3, vi σ)] [] (hp nx s)) (he0 : ∀ ρ : Unit, o = .inr (.inl ρ) → ww C M_X7_isBeside 2 0 0 nx (Qr) (Qx) nx 0 0 30 [] [] (hp nx s)) (he1 : ∀ ρ : Unit, o = .inr (.inr ρ) → ww C M_X7_isBeside 2 0 0 nx (Qr) (Qx) nx 0 0 38 [] [] (hp nx s)) : ww C M_X7_isBeside 2 0 0 nx (Qr) (Qx) nx 0 0 2 [(0, .ref 5), (1, vi x1), (2, vi x2), (3, vi x3)] [] (hp nx s) := by
  unfold Li_isBeside_t2 at hs
  refine w_iload_n 3 dX7_isBeside_2 rfl rfl ?_
  refine x_bipush dX7_isBeside_3 (by decide) ?_
  refine x_icmpge hs dX7_isBeside_5 rfl (fun hs => ?_) (fun hs => ?_)
  · refine w_lv (lv' := []) [] rfl ?_
    cases hs
    exact he1 _ rfl
  · refine w_iload_n 2 dX7_isBeside_8 rfl rfl ?_
    refine x_iconst dX7_isBeside_9 ?_
    refine x_icmpeq hs dX7_isBeside_10 rfl (fun hs => ?_) (fun hs => ?_)
    · exact q_Li_isBeside_b32 hnx x1 x2 x3 s hs hb he0 he1
    · refine w_aload_n 0 dX7_isBeside_13 rfl rfl ?_
      refine w_aload_n 0 dX7_isBeside_14 rfl rfl ?_
      refine x_getR 7 0 (b := 1) dX7_isBeside_15 (fxX7_9 rfl) rfl rfl (lt_of hnx (Nat.le_of_ble_eq_true rfl)) rfl ?_
      refine w_iload_n 1 dX7_isBeside_18 rfl rfl ?_
      refine w_iload_n 3 dX7_isBeside_19 rfl rfl ?_
      refine x_V_I M_X5_near [vi x1, vi x3] [.ref 5] hs rfl dX7_isBeside_20 (lkX7_53 _ rfl) (lt_of hnx (Nat.le_of_ble_eq_true rfl)) rfl rfl (Nat.le_of_ble_eq_true rfl) (Nat.le_of_ble_eq_true rfl) (Nat.le_of_ble_eq_true rfl) (Nat.le_of_ble_eq_true rfl) (c_Gr_near hnx x1 x3 s) (fun y1 hy1 hs => ?_)
      refine x_V_I M_X7_top [vi y1] [] hs rfl dX7_isBeside_23 (lkX7_56 _ rfl) (lt_of hnx (Nat.le_of_ble_eq_true rfl)) rfl rfl (Nat.le_of_ble_eq_true rfl) (Nat.le_of_ble_eq_true rfl) (Nat.le_of_ble_eq_true rfl) (Nat.le_of_ble_eq_true rfl) (c_Li_top hnx y1 s) (fun y2 hy2 hs => ?_)
      refine w_iload_n 2 dX7_isBeside_26 rfl rfl ?_
      refine x_icmpne hs dX7_isBeside_27 rfl (fun hs => ?_) (fun hs => ?_)
      · exact q_Li_isBeside_b32 hnx x1 x2 x3 s hs hb he0 he1
      · refine w_lv (lv' := []) [] rfl ?_
        cases hs
        exact he0 _ rfl
set_option maxRecDepth 100000 in
theorem q_Li_isBeside_l2 {C : Cx} {nx : Nat} (hnx : 80 ≤ nx) (x1 : Int) (x2 : Int) (x3 : Int) (s : Sg) {o : Int} (hs : Li_isBeside_l2 x1 x2 x3 s = some o) : ww C M_X7_isBeside 2 0 0 nx (QI nx s o) (XF) nx 0 0 2 [(0, .ref 5), (1, vi x1), (2, vi x2), (3, vi x3)] [] (hp nx s) := by
  unfold Li_isBeside_l2 at hs
  refine bnd_e hs (fun ρ hw hs => ?_)
  rcases ρ with ⟨⟩ | ⟨⟩
  · have hE : ww C M_X7_isBeside 2 0 0 nx (QI nx s o) (XF) nx 0 0 30 [] [] (hp nx s) := by
      refine x_iconst dX7_isBeside_30 ?_
      cases hs
      exact x_zreturn (Or.inr rfl) dX7_isBeside_31 rfl rfl (Nat.le_of_ble_eq_true rfl) (Nat.le_of_ble_eq_true rfl) ⟨rfl, rfl⟩
    refine whl_w (P := fun σ => ww C M_X7_isBeside 2 0 0 nx (QI nx s o) (XF) nx 0 0 2 [(0, .ref 5), (1, vi x1), (2, vi x2), (3, vi σ)] [] (hp nx s)) (E := fun ρ => ρ = (.inl ())) hw rfl ?_
    intro σ o' hs' hb' he'
    exact q_Li_isBeside_t2 hnx x1 x2 σ s hs' hb' (fun ρ e => by cases he' _ e; exact hE) (fun ρ e => by cases he' _ e)
  · have hE : ww C M_X7_isBeside 2 0 0 nx (QI nx s o) (XF) nx 0 0 38 [] [] (hp nx s) := by
      refine x_iconst dX7_isBeside_38 ?_
      cases hs
      exact x_zreturn (Or.inl rfl) dX7_isBeside_39 rfl rfl (Nat.le_of_ble_eq_true rfl) (Nat.le_of_ble_eq_true rfl) ⟨rfl, rfl⟩
    refine whl_w (P := fun σ => ww C M_X7_isBeside 2 0 0 nx (QI nx s o) (XF) nx 0 0 2 [(0, .ref 5), (1, vi x1), (2, vi x2), (3, vi σ)] [] (hp nx s)) (E := fun ρ => ρ = (.inr ())) hw rfl ?_
    intro σ o' hs' hb' he'
    exact q_Li_isBeside_t2 hnx x1 x2 σ s hs' hb' (fun ρ e => by cases he' _ e) (fun ρ e => by cases he' _ e; exact hE)
set_option maxRecDepth 100000 in
theorem c_Li_isBeside {C : Cx} {nx : Nat} (hnx : 80 ≤ nx) (x1 : Int) (x2 : Int) (s : Sg) : ∀ o, Li_isBeside x1 x2 s = some o → mm C M_X7_isBeside 2 0 0 nx nx [.ref 5, vi x1, vi x2] (hp nx s) (QI nx s o) (XF) := by
  intro o hs
  unfold Li_isBeside at hs
  refine mm_of rfl rfl (Nat.le_of_ble_eq_true rfl) ?_
  show ww C M_X7_isBeside 2 0 0 nx (QI nx s o) (XF) nx 0 0 0 [(0, .ref 5), (1, vi x1), (2, vi x2)] [] (hp nx s)
  refine x_iconst dX7_isBeside_0 ?_
  refine w_istore_n (lv' := [(3, vi 0), (0, .ref 5), (1, vi x1), (2, vi x2)]) dX7_isBeside_1 rfl (Nat.le_of_ble_eq_true rfl) rfl ?_
  refine w_lv (lv' := [(0, .ref 5), (1, vi x1), (2, vi x2), (3, vi 0)]) [1, 2, 3, 0] rfl ?_
  exact q_Li_isBeside_l2 hnx x1 x2 0 s hs
set_option maxRecDepth 100000 in
theorem q_Hx_liberties_b42 {C : Cx} {nx : Nat} (hnx : 80 ≤ nx) {Qr : Option Value → Hp → Prop} {Qx : String → Hp → Prop}  (x1 : Int) (x2 : Int) (x3 : Int) (s : Sg) {o : ((Int × Int) ⊕ (Int))} (hs : Hx_liberties_b42 x1 x2 x3 s = some o) (hb : ∀ σ : Int × Int, o = .inl σ → ww C M_X11_liberties 3 0 0 nx (Qr) (Qx) nx 0 0 4 [(0, .ref 0), (1, vi x1), (2, vi σ.1), (3, vi σ.2)] [] (hp nx s)) (he0 : ∀ ρ : Int, o = .inr ρ → ww C M_X11_liberties 3 0 0 nx (Qr) (Qx) nx 0 0 48 [(2, vi ρ)] [] (hp nx s)) : ww C M_X11_liberties 3 0 0 nx (Qr) (Qx) nx 0 0 42 [(0, .ref 0), (1, vi x1), (2, vi x2), (3, vi x3)] [] (hp nx s) := by
  unfold Hx_liberties_b42 at hs
  refine x_iinc (lv' := [(3, vi (x3 + 1)), (0, .ref 0), (1, vi x1), (2, vi x2)]) 3 dX11_liberties_42 rfl (Nat.le_of_ble_eq_true rfl) rfl ?_
  refine w_goto dX11_liberties_45 rfl ?_
  refine w_lv (lv' := [(0, .ref 0), (1, vi x1), (2, vi x2), (3, vi (x3 + 1))]) [1, 2, 3, 0] rfl ?_
  cases hs
  exact hb _ rfl
set_option maxRecDepth 100000 in
theorem q_Hx_liberties_t4 {C : Cx} {nx : Nat} (hnx : 80 ≤ nx) {Qr : Option Value → Hp → Prop} {Qx : String → Hp → Prop}  (x1 : Int) (x2 : Int) (x3 : Int) (s : Sg) {o : ((Int × Int) ⊕ (Int))} (hs : Hx_liberties_t4 x1 x2 x3 s = some o) (hb : ∀ σ : Int × Int, o = .inl σ → ww C M_X11_liberties 3 0 0 nx (Qr) (Qx) nx 0 0 4 [(0, .ref 0), (1, vi x1), (2, vi σ.1), (3, vi σ.2)] [] (hp nx s)) (he0 : ∀ ρ : Int, o = .inr ρ → ww C M_X11_liberties 3 0 0 nx (Qr) (Qx) nx 0 0 48 [(2, vi ρ)] [] (hp nx s)) : ww C M_X11_liberties 3 0 0 nx (Qr) (Qx) nx 0 0 4 [(0, .ref 0), (1, vi x1), (2, vi x2), (3, vi x3)] [] (hp nx s) := by
  unfold Hx_liberties_t4 at hs
  refine w_iload_n 3 dX11_liberties_4 rfl rfl ?_
  refine w_aload_n 0 dX11_liberties_5 rfl rfl ?_
  refine x_getR 11 0 (b := 1) dX11_liberties_6 (fxX11_10 rfl) rfl rfl (lt_of hnx (Nat.le_of_ble_eq_true rfl)) rfl ?_
  refine x_getI 5 4 dX11_liberties_9 (fxX11_275 rfl) rfl rfl (lt_of hnx (Nat.le_of_ble_eq_true rfl)) ?_
  refine x_icmpge hs dX11_liberties_12 rfl (fun hs => ?_) (fun hs => ?_)
  · refine w_lv (lv' := [(2, vi x2)]) [2] rfl ?_
    cases hs
    exact he0 _ rfl
  · refine w_aload_n 0 dX11_liberties_15 rfl rfl ?_
    refine x_getR 11 2 (b := 10) dX11_liberties_16 (fxX11_28 rfl) rfl rfl (lt_of hnx (Nat.le_of_ble_eq_true rfl)) rfl ?_
    refine w_iload_n 3 dX11_liberties_19 rfl rfl ?_
    refine x_V_I M_X9_stone [vi x3] [] hs rfl dX11_liberties_20 (lkX11_183 _ rfl) (lt_of hnx (Nat.le_of_ble_eq_true rfl)) rfl rfl (Nat.le_of_ble_eq_true rfl) (Nat.le_of_ble_eq_true rfl) (Nat.le_of_ble_eq_true rfl) (Nat.le_of_ble_eq_true rfl) (c_Po_stone hnx 10 (show 10 ∈ posL by decide) x3 s) (fun y1 hy1 hs => ?_)
    refine x_iconst dX11_liberties_23 ?_
    refine x_icmpne hs dX11_liberties_24 rfl (fun hs => ?_) (fun hs => ?_)
    · exact q_Hx_liberties_b42 hnx x1 x2 x3 s hs hb he0
    · refine w_aload_n 0 dX11_liberties_27 rfl rfl ?_
      refine x_getR 11 1 (b := 5) dX11_liberties_28 (fxX11_21 rfl) rfl rfl (lt_of hnx (Nat.le_of_ble_eq_true rfl)) rfl ?_
      refine w_iload_n 3 dX11_liberties_31 rfl rfl ?_
      refine w_iload_n 1 dX11_liberties_32 rfl rfl ?_
      refine x_V_I M_X7_isBeside [vi x3, vi x1] [] hs rfl dX11_liberties_33 (lkX11_366 _ rfl) (lt_of hnx (Nat.le_of_ble_eq_true rfl)) rfl rfl (Nat.le_of_ble_eq_true rfl) (Nat.le_of_ble_eq_true rfl) (Nat.le_of_ble_eq_true rfl) (Nat.le_of_ble_eq_true rfl) (c_Li_isBeside hnx x3 x1 s) (fun y2 hy2 hs => ?_)
      refine x_ifeq hs dX11_liberties_36 rfl (fun hs => ?_) (fun hs => ?_)
      · exact q_Hx_liberties_b42 hnx x1 x2 x3 s hs hb he0
      · refine x_iinc (lv' := [(2, vi (x2 + 1)), (0, .ref 0), (1, vi x1), (3, vi x3)]) 2 dX11_liberties_39 rfl (Nat.le_of_ble_eq_true rfl) rfl ?_
        refine w_lv (lv' := [(0, .ref 0), (1, vi x1), (2, vi (x2 + 1)), (3, vi x3)]) [1, 2, 0, 3] rfl ?_
        exact q_Hx_liberties_b42 hnx x1 (x2 + 1) x3 s hs hb he0
set_option maxRecDepth 100000 in
theorem q_Hx_liberties_l4 {C : Cx} {nx : Nat} (hnx : 80 ≤ nx) (x1 : Int) (x2 : Int) (x3 : Int) (s : Sg) {o : Int} (hs : Hx_liberties_l4 x1 x2 x3 s = some o) : ww C M_X11_liberties 3 0 0 nx (QI nx s o) (XF) nx 0 0 4 [(0, .ref 0), (1, vi x1), (2, vi x2), (3, vi x3)] [] (hp nx s) := by
  unfold Hx_liberties_l4 at hs
  refine bnd_e hs (fun x2_3 hw hs => ?_)
  have hE : ww C M_X11_liberties 3 0 0 nx (QI nx s o) (XF) nx 0 0 48 [(2, vi x2_3)] [] (hp nx s) := by
    refine w_iload_n 0 dX11_liberties_48 rfl rfl ?_
    cases hs
    exact x_ireturn dX11_liberties_49 rfl rfl (Nat.le_of_ble_eq_true rfl) (Nat.le_of_ble_eq_true rfl) ⟨rfl, rfl⟩
  refine whl_w (P := fun σ => ww C M_X11_liberties 3 0 0 nx (QI nx s o) (XF) nx 0 0 4 [(0, .ref 0), (1, vi x1), (2, vi σ.1), (3, vi σ.2)] [] (hp nx s)) (E := fun ρ => ρ = x2_3) hw rfl ?_
  intro σ o' hs' hb' he'
  exact q_Hx_liberties_t4 hnx x1 σ.1 σ.2 s hs' hb' (fun ρ e => by cases he' _ e; exact hE)
set_option maxRecDepth 100000 in
theorem c_Hx_liberties {C : Cx} {nx : Nat} (hnx : 80 ≤ nx) (x1 : Int) (s : Sg) : ∀ o, Hx_liberties x1 s = some o → mm C M_X11_liberties 3 0 0 nx nx [.ref 0, vi x1] (hp nx s) (QI nx s o) (XF) := by
  intro o hs
  unfold Hx_liberties at hs
  refine mm_of rfl rfl (Nat.le_of_ble_eq_true rfl) ?_
  show ww C M_X11_liberties 3 0 0 nx (QI nx s o) (XF) nx 0 0 0 [(0, .ref 0), (1, vi x1)] [] (hp nx s)
  refine x_iconst dX11_liberties_0 ?_
  refine w_istore_n (lv' := [(2, vi 0), (0, .ref 0), (1, vi x1)]) dX11_liberties_1 rfl (Nat.le_of_ble_eq_true rfl) rfl ?_
  refine x_iconst dX11_liberties_2 ?_
  refine w_istore_n (lv' := [(3, vi 0), (2, vi 0), (0, .ref 0), (1, vi x1)]) dX11_liberties_3 rfl (Nat.le_of_ble_eq_true rfl) rfl ?_
  refine w_lv (lv' := [(0, .ref 0), (1, vi x1), (2, vi 0), (3, vi 0)]) [2, 3, 1, 0] rfl ?_
  exact q_Hx_liberties_l4 hnx x1 0 0 s hs
set_option maxRecDepth 100000 in
theorem q_Li_number_b30 {C : Cx} {nx : Nat} (hnx : 80 ≤ nx) (x3 : Int) (u_0 : Nat) (h_u_0 : isRowW nx u_0) (s : Sg) {o : Int} (hs : Li_number_b30 x3 u_0 s = some o) : ww C M_X7_number 2 0 0 nx (QI nx s o) (XF) nx 0 0 30 [(3, vi x3)] [.ref u_0] (hp nx s) := by
  unfold Li_number_b30 at hs
  refine w_iload_n 0 dX7_number_30 rfl rfl ?_
  refine x_N_I M_X11_at [.ref u_0, vi x3] [] hs rfl dX7_number_31 (lkX7_41 _ rfl) (Nat.le_of_ble_eq_true rfl) (Nat.le_of_ble_eq_true rfl) (Nat.le_of_ble_eq_true rfl) (Nat.le_of_ble_eq_true rfl) (c_Hx_at hnx u_0 (Or.inl h_u_0) x3 s) (fun y2 hy2 hs => ?_)
  cases hs
  exact x_ireturn dX7_number_34 rfl rfl (Nat.le_of_ble_eq_true rfl) (Nat.le_of_ble_eq_true rfl) ⟨rfl, rfl⟩
set_option maxRecDepth 100000 in
theorem c_Li_number {C : Cx} {nx : Nat} (hnx : 80 ≤ nx) (x1 : Int) (x2 : Int) (s : Sg) : ∀ o, Li_number x1 x2 s = some o → mm C M_X7_number 2 0 0 nx nx [.ref 5, vi x1, vi x2] (hp nx s) (QI nx s o) (XF) := by
  intro o hs
  unfold Li_number at hs
  refine mm_of rfl rfl (Nat.le_of_ble_eq_true rfl) ?_
  show ww C M_X7_number 2 0 0 nx (QI nx s o) (XF) nx 0 0 0 [(0, .ref 5), (1, vi x1), (2, vi x2)] [] (hp nx s)
  refine w_aload_n 0 dX7_number_0 rfl rfl ?_
  refine w_iload_n 1 dX7_number_1 rfl rfl ?_
  refine x_V_I M_X7_top [vi x1] [] hs rfl dX7_number_2 (lkX7_56 _ rfl) (lt_of hnx (Nat.le_of_ble_eq_true rfl)) rfl rfl (Nat.le_of_ble_eq_true rfl) (Nat.le_of_ble_eq_true rfl) (Nat.le_of_ble_eq_true rfl) (Nat.le_of_ble_eq_true rfl) (c_Li_top hnx x1 s) (fun y1 hy1 hs => ?_)
  refine w_istore_n (lv' := [(3, vi y1), (0, .ref 5), (1, vi x1), (2, vi x2)]) dX7_number_5 rfl (Nat.le_of_ble_eq_true rfl) rfl ?_
  refine w_iload_n 3 dX7_number_6 rfl rfl ?_
  refine x_ifne hs dX7_number_7 rfl (fun hs => ?_) (fun hs => ?_)
  · refine w_iload_n 3 dX7_number_14 rfl rfl ?_
    refine x_iconst dX7_number_15 ?_
    refine x_icmpne hs dX7_number_16 rfl (fun hs => ?_) (fun hs => ?_)
    · refine w_aload_n 1 dX7_number_26 rfl rfl ?_
      refine x_getR 7 2 (b := 7) dX7_number_27 (fxX7_19 rfl) rfl rfl (lt_of hnx (Nat.le_of_ble_eq_true rfl)) rfl ?_
      refine w_lv (lv' := [(3, vi y1)]) [0] rfl ?_
      exact q_Li_number_b30 hnx y1 7 (rowW_of rfl (lt_of hnx (Nat.le_of_ble_eq_true rfl))) s hs
    · refine w_aload_n 1 dX7_number_19 rfl rfl ?_
      refine x_getR 7 3 (b := 8) dX7_number_20 (fxX7_22 rfl) rfl rfl (lt_of hnx (Nat.le_of_ble_eq_true rfl)) rfl ?_
      refine w_goto dX7_number_23 rfl ?_
      refine w_lv (lv' := [(3, vi y1)]) [0] rfl ?_
      exact q_Li_number_b30 hnx y1 8 (rowW_of rfl (lt_of hnx (Nat.le_of_ble_eq_true rfl))) s hs
  · refine w_iload_n 0 dX7_number_10 rfl rfl ?_
    refine w_goto dX7_number_11 rfl ?_
    cases hs
    exact x_ireturn dX7_number_34 rfl rfl (Nat.le_of_ble_eq_true rfl) (Nat.le_of_ble_eq_true rfl) ⟨rfl, rfl⟩
set_option maxRecDepth 100000 in
theorem c_Hx_group {C : Cx} {nx : Nat} (hnx : 80 ≤ nx) (x1 : Int) (x2 : Int) (s : Sg) : ∀ o, Hx_group x1 x2 s = some o → mm C M_X11_group 10 0 0 nx nx [.ref 0, vi x1, vi x2] (hp nx s) (QT nx o) (XF) := by
  intro o hs
  unfold Hx_group at hs
  refine mm_of rfl rfl (Nat.le_of_ble_eq_true rfl) ?_
  show ww C M_X11_group 10 0 0 nx (QT nx o) (XF) nx 0 0 0 [(0, .ref 0), (1, vi x1), (2, vi x2)] [] (hp nx s)
  refine w_aload_n 0 dX11_group_0 rfl rfl ?_
  refine w_iload_n 1 dX11_group_1 rfl rfl ?_
  refine x_V_U M_X11_requireCell [vi x1] [] hs rfl dX11_group_2 (lkX11_180 _ rfl) (lt_of hnx (Nat.le_of_ble_eq_true rfl)) rfl rfl (Nat.le_of_ble_eq_true rfl) (Nat.le_of_ble_eq_true rfl) (Nat.le_of_ble_eq_true rfl) (Nat.le_of_ble_eq_true rfl) (c_Hx_requireCell hnx x1 s) (fun y1 s2 hy1 hs => ?_)
  refine w_iload_n 2 dX11_group_5 rfl rfl ?_
  refine x_iconst dX11_group_6 ?_
  refine x_iconst dX11_group_7 ?_
  refine x_S_U M_X11_requireRange [vi x2, vi 0, vi 3] [] hs rfl dX11_group_8 (lkX11_190 _ rfl) (Nat.le_of_ble_eq_true rfl) (Nat.le_of_ble_eq_true rfl) (Nat.le_of_ble_eq_true rfl) (Nat.le_of_ble_eq_true rfl) (c_Hx_requireRange hnx x2 0 3 s2) (fun y3 s4 hy3 hs => ?_)
  refine w_aload_n 0 dX11_group_11 rfl rfl ?_
  refine x_getR 11 2 (b := 10) dX11_group_12 (fxX11_28 rfl) rfl rfl (lt_of hnx (Nat.le_of_ble_eq_true rfl)) rfl ?_
  refine w_iload_n 1 dX11_group_15 rfl rfl ?_
  refine x_V_I M_X9_stone [vi x1] [] hs rfl dX11_group_16 (lkX11_183 _ rfl) (lt_of hnx (Nat.le_of_ble_eq_true rfl)) rfl rfl (Nat.le_of_ble_eq_true rfl) (Nat.le_of_ble_eq_true rfl) (Nat.le_of_ble_eq_true rfl) (Nat.le_of_ble_eq_true rfl) (c_Po_stone hnx 10 (show 10 ∈ posL by decide) x1 s4) (fun y5 hy5 hs => ?_)
  refine w_istore_n (lv' := [(3, vi y5), (0, .ref 0), (1, vi x1), (2, vi x2)]) dX11_group_19 rfl (Nat.le_of_ble_eq_true rfl) rfl ?_
  refine w_iload_n 0 dX11_group_20 rfl rfl ?_
  refine x_iconst dX11_group_21 ?_
  refine x_icmpne hs dX11_group_22 rfl (fun hs => ?_) (fun hs => ?_)
  · refine w_aload_n 1 dX11_group_27 rfl rfl ?_
    refine x_getR 11 1 (b := 5) dX11_group_28 (fxX11_21 rfl) rfl rfl (lt_of hnx (Nat.le_of_ble_eq_true rfl)) rfl ?_
    refine w_aload_n 1 dX11_group_31 rfl rfl ?_
    refine x_getR 11 2 (b := 10) dX11_group_32 (fxX11_28 rfl) rfl rfl (lt_of hnx (Nat.le_of_ble_eq_true rfl)) rfl ?_
    refine x_getR 9 0 (b := 11) dX11_group_35 (fxX11_194 rfl) rfl rfl (lt_of hnx (Nat.le_of_ble_eq_true rfl)) rfl ?_
    refine w_iload_n 0 dX11_group_38 rfl rfl ?_
    refine x_V_V M_X7_gather [.ref 11, vi y5] [] hs rfl dX11_group_39 (lkX11_198 _ rfl) (lt_of hnx (Nat.le_of_ble_eq_true rfl)) rfl rfl (Nat.le_of_ble_eq_true rfl) (Nat.le_of_ble_eq_true rfl) (Nat.le_of_ble_eq_true rfl) (Nat.le_of_ble_eq_true rfl) (c_Li_gather hnx 11 (Or.inl (rowW_of rfl (lt_of hnx (Nat.le_of_ble_eq_true rfl)))) y5 s4) (fun s7 hs7 hs => ?_)
    refine w_iload_n 3 dX11_group_42 rfl rfl ?_
    refine x_iconst dX11_group_43 ?_
    refine x_icmpne hs dX11_group_44 rfl (fun hs => ?_) (fun hs => ?_)
    · refine w_aload_n 1 dX11_group_62 rfl rfl ?_
      refine x_getR 11 1 (b := 5) dX11_group_63 (fxX11_21 rfl) rfl rfl (lt_of hnx (Nat.le_of_ble_eq_true rfl)) rfl ?_
      refine w_iload_n 2 dX11_group_66 rfl rfl ?_
      refine w_iload_n 3 dX11_group_67 rfl rfl ?_
      refine x_V_I M_X7_number [vi x1, vi x2] [] hs rfl dX11_group_68 (lkX11_208 _ rfl) (lt_of hnx (Nat.le_of_ble_eq_true rfl)) rfl rfl (Nat.le_of_ble_eq_true rfl) (Nat.le_of_ble_eq_true rfl) (Nat.le_of_ble_eq_true rfl) (Nat.le_of_ble_eq_true rfl) (c_Li_number hnx x1 x2 s7) (fun y8 hy8 hs => ?_)
      cases hs
      exact x_ireturn dX11_group_71 rfl rfl (Nat.le_of_ble_eq_true rfl) (Nat.le_of_ble_eq_true rfl) ⟨_, rfl, rfl, rfl⟩
    · refine w_aload_n 1 dX11_group_47 rfl rfl ?_
      refine w_aload_n 1 dX11_group_48 rfl rfl ?_
      refine x_getR 11 1 (b := 5) dX11_group_49 (fxX11_21 rfl) rfl rfl (lt_of hnx (Nat.le_of_ble_eq_true rfl)) rfl ?_
      refine w_iload_n 2 dX11_group_52 rfl rfl ?_
      refine x_V_I M_X7_top [vi x1] [.ref 0] hs rfl dX11_group_53 (lkX11_202 _ rfl) (lt_of hnx (Nat.le_of_ble_eq_true rfl)) rfl rfl (Nat.le_of_ble_eq_true rfl) (Nat.le_of_ble_eq_true rfl) (Nat.le_of_ble_eq_true rfl) (Nat.le_of_ble_eq_true rfl) (c_Li_top hnx x1 s7) (fun y9 hy9 hs => ?_)
      refine x_V_I M_X11_liberties [vi y9] [] hs rfl dX11_group_56 (lkX11_205 _ rfl) (lt_of hnx (Nat.le_of_ble_eq_true rfl)) rfl rfl (Nat.le_of_ble_eq_true rfl) (Nat.le_of_ble_eq_true rfl) (Nat.le_of_ble_eq_true rfl) (Nat.le_of_ble_eq_true rfl) (c_Hx_liberties hnx y9 s7) (fun y10 hy10 hs => ?_)
      refine w_goto dX11_group_59 rfl ?_
      cases hs
      exact x_ireturn dX11_group_71 rfl rfl (Nat.le_of_ble_eq_true rfl) (Nat.le_of_ble_eq_true rfl) ⟨_, rfl, rfl, rfl⟩
  · refine x_iconst dX11_group_25 ?_
    cases hs
    exact x_ireturn dX11_group_26 rfl rfl (Nat.le_of_ble_eq_true rfl) (Nat.le_of_ble_eq_true rfl) ⟨_, rfl, rfl, rfl⟩
set_option maxRecDepth 100000 in
theorem c_Hx_requireSide {C : Cx} {nx : Nat} (hnx : 80 ≤ nx) (x0 : Int) (s : Sg) : ∀ o, Hx_requireSide x0 s = some o → mm C M_X11_requireSide 9 0 0 nx nx [vi x0] (hp nx s) (QTV nx o) (XF) := by
  intro o hs
  unfold Hx_requireSide at hs
  refine mm_of rfl rfl (Nat.le_of_ble_eq_true rfl) ?_
  show ww C M_X11_requireSide 9 0 0 nx (QTV nx o) (XF) nx 0 0 0 [(0, vi x0)] [] (hp nx s)
  refine w_iload_n 0 dX11_requireSide_0 rfl rfl ?_
  refine x_ifeq hs dX11_requireSide_1 rfl (fun hs => ?_) (fun hs => ?_)
  · cases hs
    exact w_return rfl dX11_requireSide_20 rfl (Nat.le_of_ble_eq_true rfl) (Nat.le_of_ble_eq_true rfl) ⟨_, rfl, rfl, rfl⟩
  · refine w_iload_n 0 dX11_requireSide_4 rfl rfl ?_
    refine x_iconst dX11_requireSide_5 ?_
    refine x_icmpeq hs dX11_requireSide_6 rfl (fun hs => ?_) (fun hs => ?_)
    · cases hs
      exact w_return rfl dX11_requireSide_20 rfl (Nat.le_of_ble_eq_true rfl) (Nat.le_of_ble_eq_true rfl) ⟨_, rfl, rfl, rfl⟩
    · cases hs
set_option maxRecDepth 100000 in
theorem q_Li_parts_b27 {C : Cx} {nx : Nat} (hnx : 80 ≤ nx) {Qr : Option Value → Hp → Prop} {Qx : String → Hp → Prop}  (x1 : Int) (x2 : Int) (s : Sg) {o : ((Int × Int) ⊕ (Int))} (hs : Li_parts_b27 x1 x2 s = some o) (hb : ∀ σ : Int × Int, o = .inl σ → ww C M_X7_parts 2 0 0 nx (Qr) (Qx) nx 0 0 4 [(0, .ref 5), (1, vi σ.1), (2, vi σ.2)] [] (hp nx s)) (he0 : ∀ ρ : Int, o = .inr ρ → ww C M_X7_parts 2 0 0 nx (Qr) (Qx) nx 0 0 33 [(1, vi ρ)] [] (hp nx s)) : ww C M_X7_parts 2 0 0 nx (Qr) (Qx) nx 0 0 27 [(0, .ref 5), (1, vi x1), (2, vi x2)] [] (hp nx s) := by
  unfold Li_parts_b27 at hs
  refine x_iinc (lv' := [(2, vi (x2 + 1)), (0, .ref 5), (1, vi x1)]) 2 dX7_parts_27 rfl (Nat.le_of_ble_eq_true rfl) rfl ?_
  refine w_goto dX7_parts_30 rfl ?_
  refine w_lv (lv' := [(0, .ref 5), (1, vi x1), (2, vi (x2 + 1))]) [1, 2, 0] rfl ?_
  cases hs
  exact hb _ rfl
set_option maxRecDepth 100000 in
theorem q_Li_parts_t4 {C : Cx} {nx : Nat} (hnx : 80 ≤ nx) {Qr : Option Value → Hp → Prop} {Qx : String → Hp → Prop}  (x1 : Int) (x2 : Int) (s : Sg) {o : ((Int × Int) ⊕ (Int))} (hs : Li_parts_t4 x1 x2 s = some o) (hb : ∀ σ : Int × Int, o = .inl σ → ww C M_X7_parts 2 0 0 nx (Qr) (Qx) nx 0 0 4 [(0, .ref 5), (1, vi σ.1), (2, vi σ.2)] [] (hp nx s)) (he0 : ∀ ρ : Int, o = .inr ρ → ww C M_X7_parts 2 0 0 nx (Qr) (Qx) nx 0 0 33 [(1, vi ρ)] [] (hp nx s)) : ww C M_X7_parts 2 0 0 nx (Qr) (Qx) nx 0 0 4 [(0, .ref 5), (1, vi x1), (2, vi x2)] [] (hp nx s) := by
  unfold Li_parts_t4 at hs
  refine w_iload_n 2 dX7_parts_4 rfl rfl ?_
  refine w_aload_n 0 dX7_parts_5 rfl rfl ?_
  refine x_getR 7 0 (b := 1) dX7_parts_6 (fxX7_9 rfl) rfl rfl (lt_of hnx (Nat.le_of_ble_eq_true rfl)) rfl ?_
  refine x_getI 5 4 dX7_parts_9 (fxX7_36 rfl) rfl rfl (lt_of hnx (Nat.le_of_ble_eq_true rfl)) ?_
  refine x_icmpge hs dX7_parts_12 rfl (fun hs => ?_) (fun hs => ?_)
  · refine w_lv (lv' := [(1, vi x1)]) [1] rfl ?_
    cases hs
    exact he0 _ rfl
  · refine w_aload_n 0 dX7_parts_15 rfl rfl ?_
    refine w_iload_n 2 dX7_parts_16 rfl rfl ?_
    refine x_V_I M_X7_top [vi x2] [] hs rfl dX7_parts_17 (lkX7_56 _ rfl) (lt_of hnx (Nat.le_of_ble_eq_true rfl)) rfl rfl (Nat.le_of_ble_eq_true rfl) (Nat.le_of_ble_eq_true rfl) (Nat.le_of_ble_eq_true rfl) (Nat.le_of_ble_eq_true rfl) (c_Li_top hnx x2 s) (fun y1 hy1 hs => ?_)
    refine w_iload_n 2 dX7_parts_20 rfl rfl ?_
    refine x_icmpne hs dX7_parts_21 rfl (fun hs => ?_) (fun hs => ?_)
    · exact q_Li_parts_b27 hnx x1 x2 s hs hb he0
    · refine x_iinc (lv' := [(1, vi (x1 + 1)), (0, .ref 5), (2, vi x2)]) 1 dX7_parts_24 rfl (Nat.le_of_ble_eq_true rfl) rfl ?_
      refine w_lv (lv' := [(0, .ref 5), (1, vi (x1 + 1)), (2, vi x2)]) [1, 0, 2] rfl ?_
      exact q_Li_parts_b27 hnx (x1 + 1) x2 s hs hb he0
set_option maxRecDepth 100000 in
theorem q_Li_parts_l4 {C : Cx} {nx : Nat} (hnx : 80 ≤ nx) (x1 : Int) (x2 : Int) (s : Sg) {o : Int} (hs : Li_parts_l4 x1 x2 s = some o) : ww C M_X7_parts 2 0 0 nx (QI nx s o) (XF) nx 0 0 4 [(0, .ref 5), (1, vi x1), (2, vi x2)] [] (hp nx s) := by
  unfold Li_parts_l4 at hs
  refine bnd_e hs (fun x1_2 hw hs => ?_)
  have hE : ww C M_X7_parts 2 0 0 nx (QI nx s o) (XF) nx 0 0 33 [(1, vi x1_2)] [] (hp nx s) := by
    refine w_iload_n 0 dX7_parts_33 rfl rfl ?_
    cases hs
    exact x_ireturn dX7_parts_34 rfl rfl (Nat.le_of_ble_eq_true rfl) (Nat.le_of_ble_eq_true rfl) ⟨rfl, rfl⟩
  refine whl_w (P := fun σ => ww C M_X7_parts 2 0 0 nx (QI nx s o) (XF) nx 0 0 4 [(0, .ref 5), (1, vi σ.1), (2, vi σ.2)] [] (hp nx s)) (E := fun ρ => ρ = x1_2) hw rfl ?_
  intro σ o' hs' hb' he'
  exact q_Li_parts_t4 hnx σ.1 σ.2 s hs' hb' (fun ρ e => by cases he' _ e; exact hE)
set_option maxRecDepth 100000 in
theorem c_Li_parts {C : Cx} {nx : Nat} (hnx : 80 ≤ nx)  (s : Sg) : ∀ o, Li_parts  s = some o → mm C M_X7_parts 2 0 0 nx nx [.ref 5] (hp nx s) (QI nx s o) (XF) := by
  intro o hs
  unfold Li_parts at hs
  refine mm_of rfl rfl (Nat.le_of_ble_eq_true rfl) ?_
  show ww C M_X7_parts 2 0 0 nx (QI nx s o) (XF) nx 0 0 0 [(0, .ref 5)] [] (hp nx s)
  refine x_iconst dX7_parts_0 ?_
  refine w_istore_n (lv' := [(1, vi 0), (0, .ref 5)]) dX7_parts_1 rfl (Nat.le_of_ble_eq_true rfl) rfl ?_
  refine x_iconst dX7_parts_2 ?_
  refine w_istore_n (lv' := [(2, vi 0), (1, vi 0), (0, .ref 5)]) dX7_parts_3 rfl (Nat.le_of_ble_eq_true rfl) rfl ?_
  refine w_lv (lv' := [(0, .ref 5), (1, vi 0), (2, vi 0)]) [2, 1, 0] rfl ?_
  exact q_Li_parts_l4 hnx 0 0 s hs
set_option maxRecDepth 100000 in
theorem c_Hx_groups {C : Cx} {nx : Nat} (hnx : 80 ≤ nx) (x1 : Int) (s : Sg) : ∀ o, Hx_groups x1 s = some o → mm C M_X11_groups 10 0 0 nx nx [.ref 0, vi x1] (hp nx s) (QT nx o) (XF) := by
  intro o hs
  unfold Hx_groups at hs
  refine mm_of rfl rfl (Nat.le_of_ble_eq_true rfl) ?_
  show ww C M_X11_groups 10 0 0 nx (QT nx o) (XF) nx 0 0 0 [(0, .ref 0), (1, vi x1)] [] (hp nx s)
  refine w_iload_n 1 dX11_groups_0 rfl rfl ?_
  refine x_S_U M_X11_requireSide [vi x1] [] hs rfl dX11_groups_1 (lkX11_211 _ rfl) (Nat.le_of_ble_eq_true rfl) (Nat.le_of_ble_eq_true rfl) (Nat.le_of_ble_eq_true rfl) (Nat.le_of_ble_eq_true rfl) (c_Hx_requireSide hnx x1 s) (fun y1 s2 hy1 hs => ?_)
  refine w_aload_n 0 dX11_groups_4 rfl rfl ?_
  refine x_getR 11 1 (b := 5) dX11_groups_5 (fxX11_21 rfl) rfl rfl (lt_of hnx (Nat.le_of_ble_eq_true rfl)) rfl ?_
  refine w_aload_n 0 dX11_groups_8 rfl rfl ?_
  refine x_getR 11 2 (b := 10) dX11_groups_9 (fxX11_28 rfl) rfl rfl (lt_of hnx (Nat.le_of_ble_eq_true rfl)) rfl ?_
  refine x_getR 9 0 (b := 11) dX11_groups_12 (fxX11_194 rfl) rfl rfl (lt_of hnx (Nat.le_of_ble_eq_true rfl)) rfl ?_
  refine w_iload_n 1 dX11_groups_15 rfl rfl ?_
  refine x_V_V M_X7_gather [.ref 11, vi x1] [] hs rfl dX11_groups_16 (lkX11_198 _ rfl) (lt_of hnx (Nat.le_of_ble_eq_true rfl)) rfl rfl (Nat.le_of_ble_eq_true rfl) (Nat.le_of_ble_eq_true rfl) (Nat.le_of_ble_eq_true rfl) (Nat.le_of_ble_eq_true rfl) (c_Li_gather hnx 11 (Or.inl (rowW_of rfl (lt_of hnx (Nat.le_of_ble_eq_true rfl)))) x1 s2) (fun s4 hs4 hs => ?_)
  refine w_aload_n 0 dX11_groups_19 rfl rfl ?_
  refine x_getR 11 1 (b := 5) dX11_groups_20 (fxX11_21 rfl) rfl rfl (lt_of hnx (Nat.le_of_ble_eq_true rfl)) rfl ?_
  refine x_V_I M_X7_parts [] [] hs rfl dX11_groups_23 (lkX11_214 _ rfl) (lt_of hnx (Nat.le_of_ble_eq_true rfl)) rfl rfl (Nat.le_of_ble_eq_true rfl) (Nat.le_of_ble_eq_true rfl) (Nat.le_of_ble_eq_true rfl) (Nat.le_of_ble_eq_true rfl) (c_Li_parts hnx s4) (fun y5 hy5 hs => ?_)
  cases hs
  exact x_ireturn dX11_groups_26 rfl rfl (Nat.le_of_ble_eq_true rfl) (Nat.le_of_ble_eq_true rfl) ⟨_, rfl, rfl, rfl⟩
set_option maxRecDepth 100000 in
theorem q_Li_largestPart_b49 {C : Cx} {nx : Nat} (hnx : 80 ≤ nx) {Qr : Option Value → Hp → Prop} {Qx : String → Hp → Prop}  (x1 : Int) (x2 : Int) (x3 : Int) (s : Sg) {o : ((Int × Int × Int) ⊕ (Int))} (hs : Li_largestPart_b49 x1 x2 x3 s = some o) (hb : ∀ σ : Int × Int × Int, o = .inl σ → ww C M_X7_largestPart 2 0 0 nx (Qr) (Qx) nx 0 0 6 [(0, .ref 5), (1, vi σ.1), (2, vi σ.2.1), (3, vi σ.2.2)] [] (hp nx s)) (he0 : ∀ ρ : Int, o = .inr ρ → ww C M_X7_largestPart 2 0 0 nx (Qr) (Qx) nx 0 0 55 [(1, vi ρ)] [] (hp nx s)) : ww C M_X7_largestPart 2 0 0 nx (Qr) (Qx) nx 0 0 49 [(0, .ref 5), (1, vi x1), (2, vi x2), (3, vi x3)] [] (hp nx s) := by
  unfold Li_largestPart_b49 at hs
  refine x_iinc (lv' := [(3, vi (x3 + 1)), (0, .ref 5), (1, vi x1), (2, vi x2)]) 3 dX7_largestPart_49 rfl (Nat.le_of_ble_eq_true rfl) rfl ?_
  refine w_goto dX7_largestPart_52 rfl ?_
  refine w_lv (lv' := [(0, .ref 5), (1, vi x1), (2, vi x2), (3, vi (x3 + 1))]) [1, 2, 3, 0] rfl ?_
  cases hs
  exact hb _ rfl
set_option maxRecDepth 100000 in
theorem q_Li_largestPart_t6 {C : Cx} {nx : Nat} (hnx : 80 ≤ nx) {Qr : Option Value → Hp → Prop} {Qx : String → Hp → Prop}  (x1 : Int) (x2 : Int) (x3 : Int) (s : Sg) {o : ((Int × Int × Int) ⊕ (Int))} (hs : Li_largestPart_t6 x1 x2 x3 s = some o) (hb : ∀ σ : Int × Int × Int, o = .inl σ → ww C M_X7_largestPart 2 0 0 nx (Qr) (Qx) nx 0 0 6 [(0, .ref 5), (1, vi σ.1), (2, vi σ.2.1), (3, vi σ.2.2)] [] (hp nx s)) (he0 : ∀ ρ : Int, o = .inr ρ → ww C M_X7_largestPart 2 0 0 nx (Qr) (Qx) nx 0 0 55 [(1, vi ρ)] [] (hp nx s)) : ww C M_X7_largestPart 2 0 0 nx (Qr) (Qx) nx 0 0 6 [(0, .ref 5), (1, vi x1), (2, vi x2), (3, vi x3)] [] (hp nx s) := by
  unfold Li_largestPart_t6 at hs
  refine w_iload_n 3 dX7_largestPart_6 rfl rfl ?_
  refine w_aload_n 0 dX7_largestPart_7 rfl rfl ?_
  refine x_getR 7 0 (b := 1) dX7_largestPart_8 (fxX7_9 rfl) rfl rfl (lt_of hnx (Nat.le_of_ble_eq_true rfl)) rfl ?_
  refine x_getI 5 4 dX7_largestPart_11 (fxX7_36 rfl) rfl rfl (lt_of hnx (Nat.le_of_ble_eq_true rfl)) ?_
  refine x_icmpge hs dX7_largestPart_14 rfl (fun hs => ?_) (fun hs => ?_)
  · refine w_lv (lv' := [(1, vi x1)]) [1] rfl ?_
    cases hs
    exact he0 _ rfl
  · refine w_aload_n 0 dX7_largestPart_17 rfl rfl ?_
    refine w_iload_n 3 dX7_largestPart_18 rfl rfl ?_
    refine x_V_I M_X7_top [vi x3] [] hs rfl dX7_largestPart_19 (lkX7_56 _ rfl) (lt_of hnx (Nat.le_of_ble_eq_true rfl)) rfl rfl (Nat.le_of_ble_eq_true rfl) (Nat.le_of_ble_eq_true rfl) (Nat.le_of_ble_eq_true rfl) (Nat.le_of_ble_eq_true rfl) (c_Li_top hnx x3 s) (fun y1 hy1 hs => ?_)
    refine w_iload_n 3 dX7_largestPart_22 rfl rfl ?_
    refine x_icmpne hs dX7_largestPart_23 rfl (fun hs => ?_) (fun hs => ?_)
    · exact q_Li_largestPart_b49 hnx x1 x2 x3 s hs hb he0
    · refine w_aload_n 0 dX7_largestPart_26 rfl rfl ?_
      refine x_getR 7 3 (b := 8) dX7_largestPart_27 (fxX7_22 rfl) rfl rfl (lt_of hnx (Nat.le_of_ble_eq_true rfl)) rfl ?_
      refine w_iload_n 3 dX7_largestPart_30 rfl rfl ?_
      refine x_N_I M_X11_at [.ref 8, vi x3] [] hs rfl dX7_largestPart_31 (lkX7_41 _ rfl) (Nat.le_of_ble_eq_true rfl) (Nat.le_of_ble_eq_true rfl) (Nat.le_of_ble_eq_true rfl) (Nat.le_of_ble_eq_true rfl) (c_Hx_at hnx 8 (Or.inl (rowW_of rfl (lt_of hnx (Nat.le_of_ble_eq_true rfl)))) x3 s) (fun y2 hy2 hs => ?_)
      refine w_iload_n 2 dX7_largestPart_34 rfl rfl ?_
      refine x_icmple hs dX7_largestPart_35 rfl (fun hs => ?_) (fun hs => ?_)
      · exact q_Li_largestPart_b49 hnx x1 x2 x3 s hs hb he0
      · refine w_iload_n 3 dX7_largestPart_38 rfl rfl ?_
        refine w_istore_n (lv' := [(1, vi x3), (0, .ref 5), (2, vi x2), (3, vi x3)]) dX7_largestPart_39 rfl (Nat.le_of_ble_eq_true rfl) rfl ?_
        refine w_aload_n 1 dX7_largestPart_40 rfl rfl ?_
        refine x_getR 7 3 (b := 8) dX7_largestPart_41 (fxX7_22 rfl) rfl rfl (lt_of hnx (Nat.le_of_ble_eq_true rfl)) rfl ?_
        refine w_iload_n 3 dX7_largestPart_44 rfl rfl ?_
        refine x_N_I M_X11_at [.ref 8, vi x3] [] hs rfl dX7_largestPart_45 (lkX7_41 _ rfl) (Nat.le_of_ble_eq_true rfl) (Nat.le_of_ble_eq_true rfl) (Nat.le_of_ble_eq_true rfl) (Nat.le_of_ble_eq_true rfl) (c_Hx_at hnx 8 (Or.inl (rowW_of rfl (lt_of hnx (Nat.le_of_ble_eq_true rfl)))) x3 s) (fun y3 hy3 hs => ?_)
        refine w_istore_n (lv' := [(2, vi y3), (1, vi x3), (0, .ref 5), (3, vi x3)]) dX7_largestPart_48 rfl (Nat.le_of_ble_eq_true rfl) rfl ?_
        refine w_lv (lv' := [(0, .ref 5), (1, vi x3), (2, vi y3), (3, vi x3)]) [2, 1, 0, 3] rfl ?_
        exact q_Li_largestPart_b49 hnx x3 y3 x3 s hs hb he0
set_option maxRecDepth 100000 in
theorem q_Li_largestPart_l6 {C : Cx} {nx : Nat} (hnx : 80 ≤ nx) (x1 : Int) (x2 : Int) (x3 : Int) (s : Sg) {o : Int} (hs : Li_largestPart_l6 x1 x2 x3 s = some o) : ww C M_X7_largestPart 2 0 0 nx (QI nx s o) (XF) nx 0 0 6 [(0, .ref 5), (1, vi x1), (2, vi x2), (3, vi x3)] [] (hp nx s) := by
  unfold Li_largestPart_l6 at hs
  refine bnd_e hs (fun x1_4 hw hs => ?_)
  have hE : ww C M_X7_largestPart 2 0 0 nx (QI nx s o) (XF) nx 0 0 55 [(1, vi x1_4)] [] (hp nx s) := by
    refine w_iload_n 0 dX7_largestPart_55 rfl rfl ?_
    cases hs
    exact x_ireturn dX7_largestPart_56 rfl rfl (Nat.le_of_ble_eq_true rfl) (Nat.le_of_ble_eq_true rfl) ⟨rfl, rfl⟩
  refine whl_w (P := fun σ => ww C M_X7_largestPart 2 0 0 nx (QI nx s o) (XF) nx 0 0 6 [(0, .ref 5), (1, vi σ.1), (2, vi σ.2.1), (3, vi σ.2.2)] [] (hp nx s)) (E := fun ρ => ρ = x1_4) hw rfl ?_
  intro σ o' hs' hb' he'
  exact q_Li_largestPart_t6 hnx σ.1 σ.2.1 σ.2.2 s hs' hb' (fun ρ e => by cases he' _ e; exact hE)
set_option maxRecDepth 100000 in
theorem c_Li_largestPart {C : Cx} {nx : Nat} (hnx : 80 ≤ nx)  (s : Sg) : ∀ o, Li_largestPart  s = some o → mm C M_X7_largestPart 2 0 0 nx nx [.ref 5] (hp nx s) (QI nx s o) (XF) := by
  intro o hs
  unfold Li_largestPart at hs
  refine mm_of rfl rfl (Nat.le_of_ble_eq_true rfl) ?_
  show ww C M_X7_largestPart 2 0 0 nx (QI nx s o) (XF) nx 0 0 0 [(0, .ref 5)] [] (hp nx s)
  refine x_iconst dX7_largestPart_0 ?_
  refine w_istore_n (lv' := [(1, vi (-1)), (0, .ref 5)]) dX7_largestPart_1 rfl (Nat.le_of_ble_eq_true rfl) rfl ?_
  refine x_iconst dX7_largestPart_2 ?_
  refine w_istore_n (lv' := [(2, vi 0), (1, vi (-1)), (0, .ref 5)]) dX7_largestPart_3 rfl (Nat.le_of_ble_eq_true rfl) rfl ?_
  refine x_iconst dX7_largestPart_4 ?_
  refine w_istore_n (lv' := [(3, vi 0), (2, vi 0), (1, vi (-1)), (0, .ref 5)]) dX7_largestPart_5 rfl (Nat.le_of_ble_eq_true rfl) rfl ?_
  refine w_lv (lv' := [(0, .ref 5), (1, vi (-1)), (2, vi 0), (3, vi 0)]) [3, 2, 1, 0] rfl ?_
  exact q_Li_largestPart_l6 hnx (-1) 0 0 s hs
set_option maxRecDepth 100000 in
theorem c_Hx_largest {C : Cx} {nx : Nat} (hnx : 80 ≤ nx) (x1 : Int) (s : Sg) : ∀ o, Hx_largest x1 s = some o → mm C M_X11_largest 10 0 0 nx nx [.ref 0, vi x1] (hp nx s) (QT nx o) (XF) := by
  intro o hs
  unfold Hx_largest at hs
  refine mm_of rfl rfl (Nat.le_of_ble_eq_true rfl) ?_
  show ww C M_X11_largest 10 0 0 nx (QT nx o) (XF) nx 0 0 0 [(0, .ref 0), (1, vi x1)] [] (hp nx s)
  refine w_iload_n 1 dX11_largest_0 rfl rfl ?_
  refine x_S_U M_X11_requireSide [vi x1] [] hs rfl dX11_largest_1 (lkX11_211 _ rfl) (Nat.le_of_ble_eq_true rfl) (Nat.le_of_ble_eq_true rfl) (Nat.le_of_ble_eq_true rfl) (Nat.le_of_ble_eq_true rfl) (c_Hx_requireSide hnx x1 s) (fun y1 s2 hy1 hs => ?_)
  refine w_aload_n 0 dX11_largest_4 rfl rfl ?_
  refine x_getR 11 1 (b := 5) dX11_largest_5 (fxX11_21 rfl) rfl rfl (lt_of hnx (Nat.le_of_ble_eq_true rfl)) rfl ?_
  refine w_aload_n 0 dX11_largest_8 rfl rfl ?_
  refine x_getR 11 2 (b := 10) dX11_largest_9 (fxX11_28 rfl) rfl rfl (lt_of hnx (Nat.le_of_ble_eq_true rfl)) rfl ?_
  refine x_getR 9 0 (b := 11) dX11_largest_12 (fxX11_194 rfl) rfl rfl (lt_of hnx (Nat.le_of_ble_eq_true rfl)) rfl ?_
  refine w_iload_n 1 dX11_largest_15 rfl rfl ?_
  refine x_V_V M_X7_gather [.ref 11, vi x1] [] hs rfl dX11_largest_16 (lkX11_198 _ rfl) (lt_of hnx (Nat.le_of_ble_eq_true rfl)) rfl rfl (Nat.le_of_ble_eq_true rfl) (Nat.le_of_ble_eq_true rfl) (Nat.le_of_ble_eq_true rfl) (Nat.le_of_ble_eq_true rfl) (c_Li_gather hnx 11 (Or.inl (rowW_of rfl (lt_of hnx (Nat.le_of_ble_eq_true rfl)))) x1 s2) (fun s4 hs4 hs => ?_)
  refine w_aload_n 0 dX11_largest_19 rfl rfl ?_
  refine x_getR 11 1 (b := 5) dX11_largest_20 (fxX11_21 rfl) rfl rfl (lt_of hnx (Nat.le_of_ble_eq_true rfl)) rfl ?_
  refine x_V_I M_X7_largestPart [] [] hs rfl dX11_largest_23 (lkX11_217 _ rfl) (lt_of hnx (Nat.le_of_ble_eq_true rfl)) rfl rfl (Nat.le_of_ble_eq_true rfl) (Nat.le_of_ble_eq_true rfl) (Nat.le_of_ble_eq_true rfl) (Nat.le_of_ble_eq_true rfl) (c_Li_largestPart hnx s4) (fun y5 hy5 hs => ?_)
  cases hs
  exact x_ireturn dX11_largest_26 rfl rfl (Nat.le_of_ble_eq_true rfl) (Nat.le_of_ble_eq_true rfl) ⟨_, rfl, rfl, rfl⟩
set_option maxRecDepth 100000 in
theorem q_Bl_addIfFree_b154 {C : Cx} {nx : Nat} (hnx : 80 ≤ nx) (x4 : Int) (x5 : Int) (x7 : Int) (t1 : Int) (t2 : Int) (s : Sg) {o : Sg} (hs : Bl_addIfFree_b154 x4 x5 x7 t1 t2 s = some o) : ww C M_X0_addIfFree 1 0 0 nx (QV nx o) (XF) nx 0 0 154 [(0, .ref 56), (4, vi x4), (5, vi x5), (7, vi x7)] [vi t2, vi t1, .ref 61] (hp nx s) := by
  unfold Bl_addIfFree_b154 at hs
  refine x_N_V M_X11_set [.ref 61, vi t1, vi t2] [] hs rfl dX0_addIfFree_154 (lkX0_38 _ rfl) (Nat.le_of_ble_eq_true rfl) (Nat.le_of_ble_eq_true rfl) (Nat.le_of_ble_eq_true rfl) (Nat.le_of_ble_eq_true rfl) (c_Hx_set hnx 61 (rowW_of rfl (lt_of hnx (Nat.le_of_ble_eq_true rfl))) t1 t2 s) (fun s11 hs11 hs => ?_)
  refine w_aload_n 0 dX0_addIfFree_157 rfl rfl ?_
  refine w_dup dX0_addIfFree_158 rfl ?_
  refine x_getI 0 7 dX0_addIfFree_159 (fxX0_34 rfl) rfl rfl (lt_of hnx (Nat.le_of_ble_eq_true rfl)) ?_
  refine x_iconst dX0_addIfFree_162 ?_
  refine x_iadd dX0_addIfFree_163 ?_
  refine x_putI 0 7 dX0_addIfFree_164 (poX0_34 rfl) rfl rfl (lt_of hnx (Nat.le_of_ble_eq_true rfl)) ?_
  refine nam_s hs (fun s12 hs => ?_)
  refine w_iload 3 dX0_addIfFree_167 rfl ?_
  refine x_ifeq hs dX0_addIfFree_169 rfl (fun hs => ?_) (fun hs => ?_)
  · cases hs
    exact w_return rfl dX0_addIfFree_192 rfl (Nat.le_of_ble_eq_true rfl) (Nat.le_of_ble_eq_true rfl) ⟨rfl, rfl⟩
  · refine w_aload_n 0 dX0_addIfFree_172 rfl rfl ?_
    refine x_getR 0 6 (b := 62) dX0_addIfFree_173 (fxX0_31 rfl) rfl rfl (lt_of hnx (Nat.le_of_ble_eq_true rfl)) rfl ?_
    refine w_iload 1 dX0_addIfFree_176 rfl ?_
    refine x_iconst dX0_addIfFree_178 ?_
    refine x_N_V M_X11_set [.ref 62, vi x4, vi 1] [] hs rfl dX0_addIfFree_179 (lkX0_38 _ rfl) (Nat.le_of_ble_eq_true rfl) (Nat.le_of_ble_eq_true rfl) (Nat.le_of_ble_eq_true rfl) (Nat.le_of_ble_eq_true rfl) (c_Hx_set hnx 62 (rowW_of rfl (lt_of hnx (Nat.le_of_ble_eq_true rfl))) x4 1 s12) (fun s14 hs14 hs => ?_)
    refine w_aload_n 0 dX0_addIfFree_182 rfl rfl ?_
    refine x_getR 0 6 (b := 62) dX0_addIfFree_183 (fxX0_31 rfl) rfl rfl (lt_of hnx (Nat.le_of_ble_eq_true rfl)) rfl ?_
    refine w_iload 2 dX0_addIfFree_186 rfl ?_
    refine x_iconst dX0_addIfFree_188 ?_
    refine x_N_V M_X11_set [.ref 62, vi x5, vi 1] [] hs rfl dX0_addIfFree_189 (lkX0_38 _ rfl) (Nat.le_of_ble_eq_true rfl) (Nat.le_of_ble_eq_true rfl) (Nat.le_of_ble_eq_true rfl) (Nat.le_of_ble_eq_true rfl) (c_Hx_set hnx 62 (rowW_of rfl (lt_of hnx (Nat.le_of_ble_eq_true rfl))) x5 1 s14) (fun s16 hs16 hs => ?_)
    cases hs
    exact w_return rfl dX0_addIfFree_192 rfl (Nat.le_of_ble_eq_true rfl) (Nat.le_of_ble_eq_true rfl) ⟨rfl, rfl⟩
set_option maxRecDepth 100000 in
theorem q_Bl_addIfFree_b84 {C : Cx} {nx : Nat} (hnx : 80 ≤ nx) (x2 : Int) (x3 : Int) (x4 : Int) (x5 : Int) (t0 : Int) (s : Sg) {o : Sg} (hs : Bl_addIfFree_b84 x2 x3 x4 x5 t0 s = some o) : ww C M_X0_addIfFree 1 0 0 nx (QV nx o) (XF) nx 0 0 84 [(0, .ref 56), (2, vi x2), (3, vi x3), (4, vi x4), (5, vi x5)] [vi t0] (hp nx s) := by
  unfold Bl_addIfFree_b84 at hs
  refine w_istore (lv' := [(7, vi t0), (0, .ref 56), (2, vi x2), (3, vi x3), (4, vi x4), (5, vi x5)]) dX0_addIfFree_84 (Nat.le_of_ble_eq_true rfl) rfl ?_
  refine w_aload_n 1 dX0_addIfFree_86 rfl rfl ?_
  refine x_getR 0 1 (b := 57) dX0_addIfFree_87 (fxX0_15 rfl) rfl rfl (lt_of hnx (Nat.le_of_ble_eq_true rfl)) rfl ?_
  refine w_aload_n 1 dX0_addIfFree_90 rfl rfl ?_
  refine x_getI 0 7 dX0_addIfFree_91 (fxX0_34 rfl) rfl rfl (lt_of hnx (Nat.le_of_ble_eq_true rfl)) ?_
  refine w_iload_n 2 dX0_addIfFree_94 rfl rfl ?_
  refine x_N_V M_X11_set [.ref 57, vi (gi s 56 7), vi x2] [] hs rfl dX0_addIfFree_95 (lkX0_38 _ rfl) (Nat.le_of_ble_eq_true rfl) (Nat.le_of_ble_eq_true rfl) (Nat.le_of_ble_eq_true rfl) (Nat.le_of_ble_eq_true rfl) (c_Hx_set hnx 57 (rowW_of rfl (lt_of hnx (Nat.le_of_ble_eq_true rfl))) (gi s 56 7) x2 s) (fun s3 hs3 hs => ?_)
  refine w_aload_n 1 dX0_addIfFree_98 rfl rfl ?_
  refine x_getR 0 2 (b := 58) dX0_addIfFree_99 (fxX0_19 rfl) rfl rfl (lt_of hnx (Nat.le_of_ble_eq_true rfl)) rfl ?_
  refine w_aload_n 1 dX0_addIfFree_102 rfl rfl ?_
  refine x_getI 0 7 dX0_addIfFree_103 (fxX0_34 rfl) rfl rfl (lt_of hnx (Nat.le_of_ble_eq_true rfl)) ?_
  refine w_iload_n 3 dX0_addIfFree_106 rfl rfl ?_
  refine x_N_V M_X11_set [.ref 58, vi (gi s3 56 7), vi x3] [] hs rfl dX0_addIfFree_107 (lkX0_38 _ rfl) (Nat.le_of_ble_eq_true rfl) (Nat.le_of_ble_eq_true rfl) (Nat.le_of_ble_eq_true rfl) (Nat.le_of_ble_eq_true rfl) (c_Hx_set hnx 58 (rowW_of rfl (lt_of hnx (Nat.le_of_ble_eq_true rfl))) (gi s3 56 7) x3 s3) (fun s5 hs5 hs => ?_)
  refine w_aload_n 1 dX0_addIfFree_110 rfl rfl ?_
  refine x_getR 0 3 (b := 59) dX0_addIfFree_111 (fxX0_22 rfl) rfl rfl (lt_of hnx (Nat.le_of_ble_eq_true rfl)) rfl ?_
  refine w_aload_n 1 dX0_addIfFree_114 rfl rfl ?_
  refine x_getI 0 7 dX0_addIfFree_115 (fxX0_34 rfl) rfl rfl (lt_of hnx (Nat.le_of_ble_eq_true rfl)) ?_
  refine w_iload 4 dX0_addIfFree_118 rfl ?_
  refine x_N_V M_X11_set [.ref 59, vi (gi s5 56 7), vi x4] [] hs rfl dX0_addIfFree_120 (lkX0_38 _ rfl) (Nat.le_of_ble_eq_true rfl) (Nat.le_of_ble_eq_true rfl) (Nat.le_of_ble_eq_true rfl) (Nat.le_of_ble_eq_true rfl) (c_Hx_set hnx 59 (rowW_of rfl (lt_of hnx (Nat.le_of_ble_eq_true rfl))) (gi s5 56 7) x4 s5) (fun s7 hs7 hs => ?_)
  refine w_aload_n 1 dX0_addIfFree_123 rfl rfl ?_
  refine x_getR 0 4 (b := 60) dX0_addIfFree_124 (fxX0_25 rfl) rfl rfl (lt_of hnx (Nat.le_of_ble_eq_true rfl)) rfl ?_
  refine w_aload_n 1 dX0_addIfFree_127 rfl rfl ?_
  refine x_getI 0 7 dX0_addIfFree_128 (fxX0_34 rfl) rfl rfl (lt_of hnx (Nat.le_of_ble_eq_true rfl)) ?_
  refine w_iload 5 dX0_addIfFree_131 rfl ?_
  refine x_N_V M_X11_set [.ref 60, vi (gi s7 56 7), vi x5] [] hs rfl dX0_addIfFree_133 (lkX0_38 _ rfl) (Nat.le_of_ble_eq_true rfl) (Nat.le_of_ble_eq_true rfl) (Nat.le_of_ble_eq_true rfl) (Nat.le_of_ble_eq_true rfl) (c_Hx_set hnx 60 (rowW_of rfl (lt_of hnx (Nat.le_of_ble_eq_true rfl))) (gi s7 56 7) x5 s7) (fun s9 hs9 hs => ?_)
  refine w_aload_n 1 dX0_addIfFree_136 rfl rfl ?_
  refine x_getR 0 5 (b := 61) dX0_addIfFree_137 (fxX0_28 rfl) rfl rfl (lt_of hnx (Nat.le_of_ble_eq_true rfl)) rfl ?_
  refine w_aload_n 1 dX0_addIfFree_140 rfl rfl ?_
  refine x_getI 0 7 dX0_addIfFree_141 (fxX0_34 rfl) rfl rfl (lt_of hnx (Nat.le_of_ble_eq_true rfl)) ?_
  refine w_iload 0 dX0_addIfFree_144 rfl ?_
  refine x_ifeq hs dX0_addIfFree_146 rfl (fun hs => ?_) (fun hs => ?_)
  · refine x_iconst dX0_addIfFree_153 ?_
    refine w_lv (lv' := [(0, .ref 56), (4, vi x4), (5, vi x5), (7, vi t0)]) [1, 4, 5, 0] rfl ?_
    exact q_Bl_addIfFree_b154 hnx x4 x5 t0 (gi s9 56 7) 0 s9 hs
  · refine x_iconst dX0_addIfFree_149 ?_
    refine w_goto dX0_addIfFree_150 rfl ?_
    refine w_lv (lv' := [(0, .ref 56), (4, vi x4), (5, vi x5), (7, vi t0)]) [1, 4, 5, 0] rfl ?_
    exact q_Bl_addIfFree_b154 hnx x4 x5 t0 (gi s9 56 7) 1 s9 hs
set_option maxRecDepth 100000 in
theorem q_Bl_addIfFree_b83 {C : Cx} {nx : Nat} (hnx : 80 ≤ nx) (x2 : Int) (x3 : Int) (x4 : Int) (x5 : Int) (s : Sg) {o : Sg} (hs : Bl_addIfFree_b83 x2 x3 x4 x5 s = some o) : ww C M_X0_addIfFree 1 0 0 nx (QV nx o) (XF) nx 0 0 83 [(0, .ref 56), (2, vi x2), (3, vi x3), (4, vi x4), (5, vi x5)] [] (hp nx s) := by
  unfold Bl_addIfFree_b83 at hs
  refine x_iconst dX0_addIfFree_83 ?_
  exact q_Bl_addIfFree_b84 hnx x2 x3 x4 x5 0 s hs
set_option maxRecDepth 100000 in
theorem q_Bl_addIfFree_b37 {C : Cx} {nx : Nat} (hnx : 80 ≤ nx) (x2 : Int) (x3 : Int) (x4 : Int) (x5 : Int) (t0 : Int) (s : Sg) {o : Sg} (hs : Bl_addIfFree_b37 x2 x3 x4 x5 t0 s = some o) : ww C M_X0_addIfFree 1 0 0 nx (QV nx o) (XF) nx 0 0 37 [(0, .ref 56), (2, vi x2), (3, vi x3), (4, vi x4), (5, vi x5)] [vi t0] (hp nx s) := by
  unfold Bl_addIfFree_b37 at hs
  refine w_istore (lv' := [(6, vi t0), (0, .ref 56), (2, vi x2), (3, vi x3), (4, vi x4), (5, vi x5)]) dX0_addIfFree_37 (Nat.le_of_ble_eq_true rfl) rfl ?_
  refine w_iload 0 dX0_addIfFree_39 rfl ?_
  refine x_ifeq hs dX0_addIfFree_41 rfl (fun hs => ?_) (fun hs => ?_)
  · cases hs
    exact w_return rfl dX0_addIfFree_54 rfl (Nat.le_of_ble_eq_true rfl) (Nat.le_of_ble_eq_true rfl) ⟨rfl, rfl⟩
  · refine w_aload_n 1 dX0_addIfFree_44 rfl rfl ?_
    refine x_getI 0 7 dX0_addIfFree_45 (fxX0_34 rfl) rfl rfl (lt_of hnx (Nat.le_of_ble_eq_true rfl)) ?_
    refine x_sipush dX0_addIfFree_48 (by decide) ?_
    refine x_icmplt hs dX0_addIfFree_51 rfl (fun hs => ?_) (fun hs => ?_)
    · refine w_aload_n 1 dX0_addIfFree_55 rfl rfl ?_
      refine x_getR 0 6 (b := 62) dX0_addIfFree_56 (fxX0_31 rfl) rfl rfl (lt_of hnx (Nat.le_of_ble_eq_true rfl)) rfl ?_
      refine w_iload 4 dX0_addIfFree_59 rfl ?_
      refine x_N_I M_X11_at [.ref 62, vi x4] [] hs rfl dX0_addIfFree_61 (lkX0_47 _ rfl) (Nat.le_of_ble_eq_true rfl) (Nat.le_of_ble_eq_true rfl) (Nat.le_of_ble_eq_true rfl) (Nat.le_of_ble_eq_true rfl) (c_Hx_at hnx 62 (Or.inl (rowW_of rfl (lt_of hnx (Nat.le_of_ble_eq_true rfl)))) x4 s) (fun y1 hy1 hs => ?_)
      refine x_ifne hs dX0_addIfFree_64 rfl (fun hs => ?_) (fun hs => ?_)
      · refine w_lv (lv' := [(0, .ref 56), (2, vi x2), (3, vi x3), (4, vi x4), (5, vi x5)]) [1, 2, 3, 4, 5] rfl ?_
        exact q_Bl_addIfFree_b83 hnx x2 x3 x4 x5 s hs
      · refine w_aload_n 1 dX0_addIfFree_67 rfl rfl ?_
        refine x_getR 0 6 (b := 62) dX0_addIfFree_68 (fxX0_31 rfl) rfl rfl (lt_of hnx (Nat.le_of_ble_eq_true rfl)) rfl ?_
        refine w_iload 5 dX0_addIfFree_71 rfl ?_
        refine x_N_I M_X11_at [.ref 62, vi x5] [] hs rfl dX0_addIfFree_73 (lkX0_47 _ rfl) (Nat.le_of_ble_eq_true rfl) (Nat.le_of_ble_eq_true rfl) (Nat.le_of_ble_eq_true rfl) (Nat.le_of_ble_eq_true rfl) (c_Hx_at hnx 62 (Or.inl (rowW_of rfl (lt_of hnx (Nat.le_of_ble_eq_true rfl)))) x5 s) (fun y17 hy17 hs => ?_)
        refine x_ifne hs dX0_addIfFree_76 rfl (fun hs => ?_) (fun hs => ?_)
        · refine w_lv (lv' := [(0, .ref 56), (2, vi x2), (3, vi x3), (4, vi x4), (5, vi x5)]) [1, 2, 3, 4, 5] rfl ?_
          exact q_Bl_addIfFree_b83 hnx x2 x3 x4 x5 s hs
        · refine x_iconst dX0_addIfFree_79 ?_
          refine w_goto dX0_addIfFree_80 rfl ?_
          refine w_lv (lv' := [(0, .ref 56), (2, vi x2), (3, vi x3), (4, vi x4), (5, vi x5)]) [1, 2, 3, 4, 5] rfl ?_
          exact q_Bl_addIfFree_b84 hnx x2 x3 x4 x5 1 s hs
    · cases hs
      exact w_return rfl dX0_addIfFree_54 rfl (Nat.le_of_ble_eq_true rfl) (Nat.le_of_ble_eq_true rfl) ⟨rfl, rfl⟩
set_option maxRecDepth 100000 in
theorem q_Bl_addIfFree_b36 {C : Cx} {nx : Nat} (hnx : 80 ≤ nx) (x2 : Int) (x3 : Int) (x4 : Int) (x5 : Int) (s : Sg) {o : Sg} (hs : Bl_addIfFree_b36 x2 x3 x4 x5 s = some o) : ww C M_X0_addIfFree 1 0 0 nx (QV nx o) (XF) nx 0 0 36 [(0, .ref 56), (2, vi x2), (3, vi x3), (4, vi x4), (5, vi x5)] [] (hp nx s) := by
  unfold Bl_addIfFree_b36 at hs
  refine x_iconst dX0_addIfFree_36 ?_
  exact q_Bl_addIfFree_b37 hnx x2 x3 x4 x5 0 s hs
set_option maxRecDepth 100000 in
theorem c_Bl_addIfFree {C : Cx} {nx : Nat} (hnx : 80 ≤ nx) (r1 : Nat) (h_r1 : isRow nx r1) (x2 : Int) (x3 : Int) (x4 : Int) (x5 : Int) (s : Sg) : ∀ o, Bl_addIfFree r1 x2 x3 x4 x5 s = some o → mm C M_X0_addIfFree 1 0 0 nx nx [.ref 56, .ref r1, vi x2, vi x3, vi x4, vi x5] (hp nx s) (QV nx o) (XF) := by
  intro o hs
  unfold Bl_addIfFree at hs
  refine mm_of rfl rfl (Nat.le_of_ble_eq_true rfl) ?_
  show ww C M_X0_addIfFree 1 0 0 nx (QV nx o) (XF) nx 0 0 0 [(0, .ref 56), (1, .ref r1), (2, vi x2), (3, vi x3), (4, vi x4), (5, vi x5)] [] (hp nx s)
  refine w_iload 4 dX0_addIfFree_0 rfl ?_
  refine x_iconst dX0_addIfFree_2 ?_
  refine x_icmpeq hs dX0_addIfFree_3 rfl (fun hs => ?_) (fun hs => ?_)
  · refine w_lv (lv' := [(0, .ref 56), (2, vi x2), (3, vi x3), (4, vi x4), (5, vi x5)]) [0, 2, 3, 4, 5] rfl ?_
    exact q_Bl_addIfFree_b36 hnx x2 x3 x4 x5 s hs
  · refine w_iload 5 dX0_addIfFree_6 rfl ?_
    refine x_iconst dX0_addIfFree_8 ?_
    refine x_icmpeq hs dX0_addIfFree_9 rfl (fun hs => ?_) (fun hs => ?_)
    · refine w_lv (lv' := [(0, .ref 56), (2, vi x2), (3, vi x3), (4, vi x4), (5, vi x5)]) [0, 2, 3, 4, 5] rfl ?_
      exact q_Bl_addIfFree_b36 hnx x2 x3 x4 x5 s hs
    · refine w_aload_n 1 dX0_addIfFree_12 rfl rfl ?_
      refine w_iload 4 dX0_addIfFree_13 rfl ?_
      refine x_N_I M_X11_at [.ref r1, vi x4] [] hs rfl dX0_addIfFree_15 (lkX0_47 _ rfl) (Nat.le_of_ble_eq_true rfl) (Nat.le_of_ble_eq_true rfl) (Nat.le_of_ble_eq_true rfl) (Nat.le_of_ble_eq_true rfl) (c_Hx_at hnx r1 h_r1 x4 s) (fun y18 hy18 hs => ?_)
      refine x_iconst dX0_addIfFree_18 ?_
      refine x_icmpne hs dX0_addIfFree_19 rfl (fun hs => ?_) (fun hs => ?_)
      · refine w_lv (lv' := [(0, .ref 56), (2, vi x2), (3, vi x3), (4, vi x4), (5, vi x5)]) [0, 2, 3, 4, 5] rfl ?_
        exact q_Bl_addIfFree_b36 hnx x2 x3 x4 x5 s hs
      · refine w_aload_n 1 dX0_addIfFree_22 rfl rfl ?_
        refine w_iload 5 dX0_addIfFree_23 rfl ?_
        refine x_N_I M_X11_at [.ref r1, vi x5] [] hs rfl dX0_addIfFree_25 (lkX0_47 _ rfl) (Nat.le_of_ble_eq_true rfl) (Nat.le_of_ble_eq_true rfl) (Nat.le_of_ble_eq_true rfl) (Nat.le_of_ble_eq_true rfl) (c_Hx_at hnx r1 h_r1 x5 s) (fun y19 hy19 hs => ?_)
        refine x_iconst dX0_addIfFree_28 ?_
        refine x_icmpne hs dX0_addIfFree_29 rfl (fun hs => ?_) (fun hs => ?_)
        · refine w_lv (lv' := [(0, .ref 56), (2, vi x2), (3, vi x3), (4, vi x4), (5, vi x5)]) [0, 2, 3, 4, 5] rfl ?_
          exact q_Bl_addIfFree_b36 hnx x2 x3 x4 x5 s hs
        · refine x_iconst dX0_addIfFree_32 ?_
          refine w_goto dX0_addIfFree_33 rfl ?_
          refine w_lv (lv' := [(0, .ref 56), (2, vi x2), (3, vi x3), (4, vi x4), (5, vi x5)]) [0, 2, 3, 4, 5] rfl ?_
          exact q_Bl_addIfFree_b37 hnx x2 x3 x4 x5 1 s hs
set_option maxRecDepth 100000 in
theorem c_Bl_addToCell {C : Cx} {nx : Nat} (hnx : 80 ≤ nx) (r1 : Nat) (h_r1 : isRow nx r1) (x2 : Int) (x3 : Int) (s : Sg) : ∀ o, Bl_addToCell r1 x2 x3 s = some o → mm C M_X0_addToCell 2 0 0 nx nx [.ref 56, .ref r1, vi x2, vi x3] (hp nx s) (QV nx o) (XF) := by
  intro o hs
  unfold Bl_addToCell at hs
  refine mm_of rfl rfl (Nat.le_of_ble_eq_true rfl) ?_
  show ww C M_X0_addToCell 2 0 0 nx (QV nx o) (XF) nx 0 0 0 [(0, .ref 56), (1, .ref r1), (2, vi x2), (3, vi x3)] [] (hp nx s)
  refine w_aload_n 0 dX0_addToCell_0 rfl rfl ?_
  refine x_getR 0 0 (b := 1) dX0_addToCell_1 (fxX0_9 rfl) rfl rfl (lt_of hnx (Nat.le_of_ble_eq_true rfl)) rfl ?_
  refine w_iload_n 2 dX0_addToCell_4 rfl rfl ?_
  refine x_V_I M_X5_row [vi x2] [] hs rfl dX0_addToCell_5 (lkX0_60 _ rfl) (lt_of hnx (Nat.le_of_ble_eq_true rfl)) rfl rfl (Nat.le_of_ble_eq_true rfl) (Nat.le_of_ble_eq_true rfl) (Nat.le_of_ble_eq_true rfl) (Nat.le_of_ble_eq_true rfl) (c_Gr_row hnx x2 s) (fun y1 hy1 hs => ?_)
  refine w_istore (lv' := [(4, vi y1), (0, .ref 56), (1, .ref r1), (2, vi x2), (3, vi x3)]) dX0_addToCell_8 (Nat.le_of_ble_eq_true rfl) rfl ?_
  refine w_aload_n 1 dX0_addToCell_10 rfl rfl ?_
  refine x_getR 0 0 (b := 1) dX0_addToCell_11 (fxX0_9 rfl) rfl rfl (lt_of hnx (Nat.le_of_ble_eq_true rfl)) rfl ?_
  refine w_iload_n 3 dX0_addToCell_14 rfl rfl ?_
  refine x_V_I M_X5_column [vi x2] [] hs rfl dX0_addToCell_15 (lkX0_64 _ rfl) (lt_of hnx (Nat.le_of_ble_eq_true rfl)) rfl rfl (Nat.le_of_ble_eq_true rfl) (Nat.le_of_ble_eq_true rfl) (Nat.le_of_ble_eq_true rfl) (Nat.le_of_ble_eq_true rfl) (c_Gr_column hnx x2 s) (fun y2 hy2 hs => ?_)
  refine w_istore (lv' := [(5, vi y2), (4, vi y1), (0, .ref 56), (1, .ref r1), (2, vi x2), (3, vi x3)]) dX0_addToCell_18 (Nat.le_of_ble_eq_true rfl) rfl ?_
  refine w_aload_n 2 dX0_addToCell_20 rfl rfl ?_
  refine x_getR 0 0 (b := 1) dX0_addToCell_21 (fxX0_9 rfl) rfl rfl (lt_of hnx (Nat.le_of_ble_eq_true rfl)) rfl ?_
  refine w_iload 1 dX0_addToCell_24 rfl ?_
  refine x_gets (i := 1002) (Nat.le_of_ble_eq_true rfl) (List.mem_of_getElem? (i := 2) rfl) dX0_addToCell_26 (gsX0_51 rfl) ?_
  refine w_iload_n 5 dX0_addToCell_29 rfl rfl ?_
  refine x_N_I M_X11_at [.ref 1002, vi x3] [vi y1, .ref 1] hs rfl dX0_addToCell_30 (lkX0_47 _ rfl) (Nat.le_of_ble_eq_true rfl) (Nat.le_of_ble_eq_true rfl) (Nat.le_of_ble_eq_true rfl) (Nat.le_of_ble_eq_true rfl) (c_Hx_at hnx 1002 (Or.inr ⟨by decide, by decide⟩) x3 s) (fun y3 hy3 hs => ?_)
  refine x_iadd dX0_addToCell_33 ?_
  refine w_iload 0 dX0_addToCell_34 rfl ?_
  refine x_gets (i := 1003) (Nat.le_of_ble_eq_true rfl) (List.mem_of_getElem? (i := 3) rfl) dX0_addToCell_36 (gsX0_67 rfl) ?_
  refine w_iload_n 5 dX0_addToCell_39 rfl rfl ?_
  refine x_N_I M_X11_at [.ref 1003, vi x3] [vi y2, vi (y1 + y3), .ref 1] hs rfl dX0_addToCell_40 (lkX0_47 _ rfl) (Nat.le_of_ble_eq_true rfl) (Nat.le_of_ble_eq_true rfl) (Nat.le_of_ble_eq_true rfl) (Nat.le_of_ble_eq_true rfl) (c_Hx_at hnx 1003 (Or.inr ⟨by decide, by decide⟩) x3 s) (fun y4 hy4 hs => ?_)
  refine x_iadd dX0_addToCell_43 ?_
  refine x_V_I M_X5_cellAt [vi (y1 + y3), vi (y2 + y4)] [] hs rfl dX0_addToCell_44 (lkX0_70 _ rfl) (lt_of hnx (Nat.le_of_ble_eq_true rfl)) rfl rfl (Nat.le_of_ble_eq_true rfl) (Nat.le_of_ble_eq_true rfl) (Nat.le_of_ble_eq_true rfl) (Nat.le_of_ble_eq_true rfl) (c_Gr_cellAt hnx (y1 + y3) (y2 + y4) s) (fun y5 hy5 hs => ?_)
  refine w_istore (lv' := [(6, vi y5), (5, vi y2), (4, vi y1), (0, .ref 56), (1, .ref r1), (2, vi x2), (3, vi x3)]) dX0_addToCell_47 (Nat.le_of_ble_eq_true rfl) rfl ?_
  refine w_iload 0 dX0_addToCell_49 rfl ?_
  refine x_iconst dX0_addToCell_51 ?_
  refine x_icmpeq hs dX0_addToCell_52 rfl (fun hs => ?_) (fun hs => ?_)
  · cases hs
    exact w_return rfl dX0_addToCell_69 rfl (Nat.le_of_ble_eq_true rfl) (Nat.le_of_ble_eq_true rfl) ⟨rfl, rfl⟩
  · refine w_aload_n 4 dX0_addToCell_55 rfl rfl ?_
    refine w_iload 0 dX0_addToCell_56 rfl ?_
    refine x_N_I M_X11_at [.ref r1, vi y5] [] hs rfl dX0_addToCell_58 (lkX0_47 _ rfl) (Nat.le_of_ble_eq_true rfl) (Nat.le_of_ble_eq_true rfl) (Nat.le_of_ble_eq_true rfl) (Nat.le_of_ble_eq_true rfl) (c_Hx_at hnx r1 h_r1 y5 s) (fun y6 hy6 hs => ?_)
    refine w_aload_n 4 dX0_addToCell_61 rfl rfl ?_
    refine w_iload_n 5 dX0_addToCell_62 rfl rfl ?_
    refine x_N_I M_X11_at [.ref r1, vi x2] [vi y6] hs rfl dX0_addToCell_63 (lkX0_47 _ rfl) (Nat.le_of_ble_eq_true rfl) (Nat.le_of_ble_eq_true rfl) (Nat.le_of_ble_eq_true rfl) (Nat.le_of_ble_eq_true rfl) (c_Hx_at hnx r1 h_r1 x2 s) (fun y7 hy7 hs => ?_)
    refine x_icmpeq hs dX0_addToCell_66 rfl (fun hs => ?_) (fun hs => ?_)
    · refine w_aload_n 3 dX0_addToCell_70 rfl rfl ?_
      refine x_getR 0 0 (b := 1) dX0_addToCell_71 (fxX0_9 rfl) rfl rfl (lt_of hnx (Nat.le_of_ble_eq_true rfl)) rfl ?_
      refine w_iload 2 dX0_addToCell_74 rfl ?_
      refine x_gets (i := 1004) (Nat.le_of_ble_eq_true rfl) (List.mem_of_getElem? (i := 4) rfl) dX0_addToCell_76 (gsX0_74 rfl) ?_
      refine w_iload_n 6 dX0_addToCell_79 rfl rfl ?_
      refine x_N_I M_X11_at [.ref 1004, vi x3] [vi y1, .ref 1] hs rfl dX0_addToCell_80 (lkX0_47 _ rfl) (Nat.le_of_ble_eq_true rfl) (Nat.le_of_ble_eq_true rfl) (Nat.le_of_ble_eq_true rfl) (Nat.le_of_ble_eq_true rfl) (c_Hx_at hnx 1004 (Or.inr ⟨by decide, by decide⟩) x3 s) (fun y8 hy8 hs => ?_)
      refine x_iadd dX0_addToCell_83 ?_
      refine w_iload 1 dX0_addToCell_84 rfl ?_
      refine x_gets (i := 1005) (Nat.le_of_ble_eq_true rfl) (List.mem_of_getElem? (i := 5) rfl) dX0_addToCell_86 (gsX0_77 rfl) ?_
      refine w_iload_n 6 dX0_addToCell_89 rfl rfl ?_
      refine x_N_I M_X11_at [.ref 1005, vi x3] [vi y2, vi (y1 + y8), .ref 1] hs rfl dX0_addToCell_90 (lkX0_47 _ rfl) (Nat.le_of_ble_eq_true rfl) (Nat.le_of_ble_eq_true rfl) (Nat.le_of_ble_eq_true rfl) (Nat.le_of_ble_eq_true rfl) (c_Hx_at hnx 1005 (Or.inr ⟨by decide, by decide⟩) x3 s) (fun y9 hy9 hs => ?_)
      refine x_iadd dX0_addToCell_93 ?_
      refine x_V_I M_X5_cellAt [vi (y1 + y8), vi (y2 + y9)] [] hs rfl dX0_addToCell_94 (lkX0_70 _ rfl) (lt_of hnx (Nat.le_of_ble_eq_true rfl)) rfl rfl (Nat.le_of_ble_eq_true rfl) (Nat.le_of_ble_eq_true rfl) (Nat.le_of_ble_eq_true rfl) (Nat.le_of_ble_eq_true rfl) (c_Gr_cellAt hnx (y1 + y8) (y2 + y9) s) (fun y10 hy10 hs => ?_)
      refine w_istore (lv' := [(7, vi y10), (6, vi y5), (5, vi y2), (4, vi y1), (0, .ref 56), (1, .ref r1), (2, vi x2), (3, vi x3)]) dX0_addToCell_97 (Nat.le_of_ble_eq_true rfl) rfl ?_
      refine w_aload_n 4 dX0_addToCell_99 rfl rfl ?_
      refine x_getR 0 0 (b := 1) dX0_addToCell_100 (fxX0_9 rfl) rfl rfl (lt_of hnx (Nat.le_of_ble_eq_true rfl)) rfl ?_
      refine w_iload 3 dX0_addToCell_103 rfl ?_
      refine x_gets (i := 1006) (Nat.le_of_ble_eq_true rfl) (List.mem_of_getElem? (i := 6) rfl) dX0_addToCell_105 (gsX0_80 rfl) ?_
      refine w_iload_n 7 dX0_addToCell_108 rfl rfl ?_
      refine x_N_I M_X11_at [.ref 1006, vi x3] [vi y1, .ref 1] hs rfl dX0_addToCell_109 (lkX0_47 _ rfl) (Nat.le_of_ble_eq_true rfl) (Nat.le_of_ble_eq_true rfl) (Nat.le_of_ble_eq_true rfl) (Nat.le_of_ble_eq_true rfl) (c_Hx_at hnx 1006 (Or.inr ⟨by decide, by decide⟩) x3 s) (fun y11 hy11 hs => ?_)
      refine x_iadd dX0_addToCell_112 ?_
      refine w_iload 2 dX0_addToCell_113 rfl ?_
      refine x_gets (i := 1007) (Nat.le_of_ble_eq_true rfl) (List.mem_of_getElem? (i := 7) rfl) dX0_addToCell_115 (gsX0_83 rfl) ?_
      refine w_iload_n 7 dX0_addToCell_118 rfl rfl ?_
      refine x_N_I M_X11_at [.ref 1007, vi x3] [vi y2, vi (y1 + y11), .ref 1] hs rfl dX0_addToCell_119 (lkX0_47 _ rfl) (Nat.le_of_ble_eq_true rfl) (Nat.le_of_ble_eq_true rfl) (Nat.le_of_ble_eq_true rfl) (Nat.le_of_ble_eq_true rfl) (c_Hx_at hnx 1007 (Or.inr ⟨by decide, by decide⟩) x3 s) (fun y12 hy12 hs => ?_)
      refine x_iadd dX0_addToCell_122 ?_
      refine x_V_I M_X5_cellAt [vi (y1 + y11), vi (y2 + y12)] [] hs rfl dX0_addToCell_123 (lkX0_70 _ rfl) (lt_of hnx (Nat.le_of_ble_eq_true rfl)) rfl rfl (Nat.le_of_ble_eq_true rfl) (Nat.le_of_ble_eq_true rfl) (Nat.le_of_ble_eq_true rfl) (Nat.le_of_ble_eq_true rfl) (c_Gr_cellAt hnx (y1 + y11) (y2 + y12) s) (fun y13 hy13 hs => ?_)
      refine w_istore (lv' := [(8, vi y13), (7, vi y10), (6, vi y5), (5, vi y2), (4, vi y1), (0, .ref 56), (1, .ref r1), (2, vi x2), (3, vi x3)]) dX0_addToCell_126 (Nat.le_of_ble_eq_true rfl) rfl ?_
      refine w_aload_n 5 dX0_addToCell_128 rfl rfl ?_
      refine w_aload_n 6 dX0_addToCell_129 rfl rfl ?_
      refine w_iload_n 7 dX0_addToCell_130 rfl rfl ?_
      refine w_iload 2 dX0_addToCell_131 rfl ?_
      refine w_iload 1 dX0_addToCell_133 rfl ?_
      refine w_iload 0 dX0_addToCell_135 rfl ?_
      refine x_V_V M_X0_addIfFree [.ref r1, vi x2, vi y5, vi y10, vi y13] [] hs rfl dX0_addToCell_137 (lkX0_86 _ rfl) (lt_of hnx (Nat.le_of_ble_eq_true rfl)) rfl rfl (Nat.le_of_ble_eq_true rfl) (Nat.le_of_ble_eq_true rfl) (Nat.le_of_ble_eq_true rfl) (Nat.le_of_ble_eq_true rfl) (c_Bl_addIfFree hnx r1 h_r1 x2 y5 y10 y13 s) (fun s15 hs15 hs => ?_)
      cases hs
      exact w_return rfl dX0_addToCell_140 rfl (Nat.le_of_ble_eq_true rfl) (Nat.le_of_ble_eq_true rfl) ⟨rfl, rfl⟩
    · cases hs
      exact w_return rfl dX0_addToCell_69 rfl (Nat.le_of_ble_eq_true rfl) (Nat.le_of_ble_eq_true rfl) ⟨rfl, rfl⟩
set_option maxRecDepth 100000 in
theorem q_Bl_addToEdge_b99 {C : Cx} {nx : Nat} (hnx : 80 ≤ nx) {Qr : Option Value → Hp → Prop} {Qx : String → Hp → Prop}  (r1 : Nat) (h_r1 : isRow nx r1) (x2 : Int) (x3 : Int) (x4 : Int) (x5 : Int) (x6 : Int) (x7 : Int) (x8 : Int) (s : Sg) {o : ((Int × Int × Int) ⊕ (Int × Int))} (hs : Bl_addToEdge_b99 r1 x2 x3 x4 x5 x6 x7 x8 s = some o) (hb : ∀ σ : Int × Int × Int, o = .inl σ → ww C M_X0_addToEdge 2 0 0 nx (Qr) (Qx) nx 0 0 38 [(0, .ref 56), (1, .ref r1), (2, vi x2), (3, vi x3), (4, vi x4), (5, vi x5), (6, vi σ.1), (7, vi σ.2.1), (8, vi σ.2.2)] [] (hp nx s)) (he0 : ∀ ρ : Int × Int, o = .inr ρ → ww C M_X0_addToEdge 2 0 0 nx (Qr) (Qx) nx 0 0 105 [(0, .ref 56), (1, .ref r1), (2, vi x2), (3, vi x3), (6, vi ρ.1), (7, vi ρ.2)] [] (hp nx s)) : ww C M_X0_addToEdge 2 0 0 nx (Qr) (Qx) nx 0 0 99 [(0, .ref 56), (1, .ref r1), (2, vi x2), (3, vi x3), (4, vi x4), (5, vi x5), (6, vi x6), (7, vi x7), (8, vi x8)] [] (hp nx s) := by
  unfold Bl_addToEdge_b99 at hs
  refine x_iinc (lv' := [(8, vi (x8 + 1)), (0, .ref 56), (1, .ref r1), (2, vi x2), (3, vi x3), (4, vi x4), (5, vi x5), (6, vi x6), (7, vi x7)]) 8 dX0_addToEdge_99 rfl (Nat.le_of_ble_eq_true rfl) rfl ?_
  refine w_goto dX0_addToEdge_102 rfl ?_
  refine w_lv (lv' := [(0, .ref 56), (1, .ref r1), (2, vi x2), (3, vi x3), (4, vi x4), (5, vi x5), (6, vi x6), (7, vi x7), (8, vi (x8 + 1))]) [1, 2, 3, 4, 5, 6, 7, 8, 0] rfl ?_
  cases hs
  exact hb _ rfl
set_option maxRecDepth 100000 in
theorem q_Bl_addToEdge_b93 {C : Cx} {nx : Nat} (hnx : 80 ≤ nx) {Qr : Option Value → Hp → Prop} {Qx : String → Hp → Prop}  (r1 : Nat) (h_r1 : isRow nx r1) (x2 : Int) (x3 : Int) (x4 : Int) (x5 : Int) (x8 : Int) (x9 : Int) (t0 : Int) (s : Sg) {o : ((Int × Int × Int) ⊕ (Int × Int))} (hs : Bl_addToEdge_b93 r1 x2 x3 x4 x5 x8 x9 t0 s = some o) (hb : ∀ σ : Int × Int × Int, o = .inl σ → ww C M_X0_addToEdge 2 0 0 nx (Qr) (Qx) nx 0 0 38 [(0, .ref 56), (1, .ref r1), (2, vi x2), (3, vi x3), (4, vi x4), (5, vi x5), (6, vi σ.1), (7, vi σ.2.1), (8, vi σ.2.2)] [] (hp nx s)) (he0 : ∀ ρ : Int × Int, o = .inr ρ → ww C M_X0_addToEdge 2 0 0 nx (Qr) (Qx) nx 0 0 105 [(0, .ref 56), (1, .ref r1), (2, vi x2), (3, vi x3), (6, vi ρ.1), (7, vi ρ.2)] [] (hp nx s)) : ww C M_X0_addToEdge 2 0 0 nx (Qr) (Qx) nx 0 0 93 [(0, .ref 56), (1, .ref r1), (2, vi x2), (3, vi x3), (4, vi x4), (5, vi x5), (8, vi x8), (9, vi x9)] [vi t0] (hp nx s) := by
  unfold Bl_addToEdge_b93 at hs
  refine w_istore (lv' := [(6, vi t0), (0, .ref 56), (1, .ref r1), (2, vi x2), (3, vi x3), (4, vi x4), (5, vi x5), (8, vi x8), (9, vi x9)]) dX0_addToEdge_93 (Nat.le_of_ble_eq_true rfl) rfl ?_
  refine w_iload 8 dX0_addToEdge_95 rfl ?_
  refine w_istore (lv' := [(7, vi x9), (6, vi t0), (0, .ref 56), (1, .ref r1), (2, vi x2), (3, vi x3), (4, vi x4), (5, vi x5), (8, vi x8), (9, vi x9)]) dX0_addToEdge_97 (Nat.le_of_ble_eq_true rfl) rfl ?_
  refine w_lv (lv' := [(0, .ref 56), (1, .ref r1), (2, vi x2), (3, vi x3), (4, vi x4), (5, vi x5), (6, vi t0), (7, vi x9), (8, vi x8)]) [2, 3, 4, 5, 6, 7, 1, 0, 8] rfl ?_
  exact q_Bl_addToEdge_b99 hnx r1 h_r1 x2 x3 x4 x5 t0 x9 x8 s hs hb he0
set_option maxRecDepth 100000 in
theorem q_Bl_addToEdge_t38 {C : Cx} {nx : Nat} (hnx : 80 ≤ nx) {Qr : Option Value → Hp → Prop} {Qx : String → Hp → Prop}  (r1 : Nat) (h_r1 : isRow nx r1) (x2 : Int) (x3 : Int) (x4 : Int) (x5 : Int) (x6 : Int) (x7 : Int) (x8 : Int) (s : Sg) {o : ((Int × Int × Int) ⊕ (Int × Int))} (hs : Bl_addToEdge_t38 r1 x2 x3 x4 x5 x6 x7 x8 s = some o) (hb : ∀ σ : Int × Int × Int, o = .inl σ → ww C M_X0_addToEdge 2 0 0 nx (Qr) (Qx) nx 0 0 38 [(0, .ref 56), (1, .ref r1), (2, vi x2), (3, vi x3), (4, vi x4), (5, vi x5), (6, vi σ.1), (7, vi σ.2.1), (8, vi σ.2.2)] [] (hp nx s)) (he0 : ∀ ρ : Int × Int, o = .inr ρ → ww C M_X0_addToEdge 2 0 0 nx (Qr) (Qx) nx 0 0 105 [(0, .ref 56), (1, .ref r1), (2, vi x2), (3, vi x3), (6, vi ρ.1), (7, vi ρ.2)] [] (hp nx s)) : ww C M_X0_addToEdge 2 0 0 nx (Qr) (Qx) nx 0 0 38 [(0, .ref 56), (1, .ref r1), (2, vi x2), (3, vi x3), (4, vi x4), (5, vi x5), (6, vi x6), (7, vi x7), (8, vi x8)] [] (hp nx s) := by
  unfold Bl_addToEdge_t38 at hs
  refine w_iload 8 dX0_addToEdge_38 rfl ?_
  refine x_bipush dX0_addToEdge_40 (by decide) ?_
  refine x_icmpge hs dX0_addToEdge_42 rfl (fun hs => ?_) (fun hs => ?_)
  · refine w_lv (lv' := [(0, .ref 56), (1, .ref r1), (2, vi x2), (3, vi x3), (6, vi x6), (7, vi x7)]) [0, 1, 2, 3, 6, 7] rfl ?_
    cases hs
    exact he0 _ rfl
  · refine w_aload_n 0 dX0_addToEdge_45 rfl rfl ?_
    refine x_getR 0 0 (b := 1) dX0_addToEdge_46 (fxX0_9 rfl) rfl rfl (lt_of hnx (Nat.le_of_ble_eq_true rfl)) rfl ?_
    refine w_iload_n 2 dX0_addToEdge_49 rfl rfl ?_
    refine w_iload 8 dX0_addToEdge_50 rfl ?_
    refine x_V_I M_X5_near [vi x2, vi x8] [] hs rfl dX0_addToEdge_52 (lkX0_93 _ rfl) (lt_of hnx (Nat.le_of_ble_eq_true rfl)) rfl rfl (Nat.le_of_ble_eq_true rfl) (Nat.le_of_ble_eq_true rfl) (Nat.le_of_ble_eq_true rfl) (Nat.le_of_ble_eq_true rfl) (c_Gr_near hnx x2 x8 s) (fun y4 hy4 hs => ?_)
    refine w_istore (lv' := [(9, vi y4), (0, .ref 56), (1, .ref r1), (2, vi x2), (3, vi x3), (4, vi x4), (5, vi x5), (6, vi x6), (7, vi x7), (8, vi x8)]) dX0_addToEdge_55 (Nat.le_of_ble_eq_true rfl) rfl ?_
    refine w_iload 0 dX0_addToEdge_57 rfl ?_
    refine x_iconst dX0_addToEdge_59 ?_
    refine x_icmpeq hs dX0_addToEdge_60 rfl (fun hs => ?_) (fun hs => ?_)
    · refine w_lv (lv' := [(0, .ref 56), (1, .ref r1), (2, vi x2), (3, vi x3), (4, vi x4), (5, vi x5), (6, vi x6), (7, vi x7), (8, vi x8)]) [1, 2, 3, 4, 5, 6, 7, 8, 9] rfl ?_
      exact q_Bl_addToEdge_b99 hnx r1 h_r1 x2 x3 x4 x5 x6 x7 x8 s hs hb he0
    · refine w_aload_n 1 dX0_addToEdge_63 rfl rfl ?_
      refine x_getR 0 0 (b := 1) dX0_addToEdge_64 (fxX0_9 rfl) rfl rfl (lt_of hnx (Nat.le_of_ble_eq_true rfl)) rfl ?_
      refine w_iload 0 dX0_addToEdge_67 rfl ?_
      refine w_iload 5 dX0_addToEdge_69 rfl ?_
      refine x_V_I M_X5_edges [vi y4, vi x4] [] hs rfl dX0_addToEdge_71 (lkX0_90 _ rfl) (lt_of hnx (Nat.le_of_ble_eq_true rfl)) rfl rfl (Nat.le_of_ble_eq_true rfl) (Nat.le_of_ble_eq_true rfl) (Nat.le_of_ble_eq_true rfl) (Nat.le_of_ble_eq_true rfl) (c_Gr_edges hnx y4 x4 s) (fun y5 hy5 hs => ?_)
      refine w_iload 6 dX0_addToEdge_74 rfl ?_
      refine x_iand dX0_addToEdge_76 ?_
      refine x_ifeq hs dX0_addToEdge_77 rfl (fun hs => ?_) (fun hs => ?_)
      · refine w_lv (lv' := [(0, .ref 56), (1, .ref r1), (2, vi x2), (3, vi x3), (4, vi x4), (5, vi x5), (6, vi x6), (7, vi x7), (8, vi x8)]) [1, 2, 3, 4, 5, 6, 7, 8, 9] rfl ?_
        exact q_Bl_addToEdge_b99 hnx r1 h_r1 x2 x3 x4 x5 x6 x7 x8 s hs hb he0
      · refine w_iload 7 dX0_addToEdge_80 rfl ?_
        refine x_iconst dX0_addToEdge_82 ?_
        refine x_icmpne hs dX0_addToEdge_83 rfl (fun hs => ?_) (fun hs => ?_)
        · refine w_iload 7 dX0_addToEdge_91 rfl ?_
          refine w_lv (lv' := [(0, .ref 56), (1, .ref r1), (2, vi x2), (3, vi x3), (4, vi x4), (5, vi x5), (8, vi x8), (9, vi y4)]) [1, 2, 3, 4, 5, 6, 9, 0] rfl ?_
          exact q_Bl_addToEdge_b93 hnx r1 h_r1 x2 x3 x4 x5 x8 y4 x6 s hs hb he0
        · refine w_iload 0 dX0_addToEdge_86 rfl ?_
          refine w_goto dX0_addToEdge_88 rfl ?_
          refine w_lv (lv' := [(0, .ref 56), (1, .ref r1), (2, vi x2), (3, vi x3), (4, vi x4), (5, vi x5), (8, vi x8), (9, vi y4)]) [1, 2, 3, 4, 5, 6, 9, 0] rfl ?_
          exact q_Bl_addToEdge_b93 hnx r1 h_r1 x2 x3 x4 x5 x8 y4 y4 s hs hb he0
set_option maxRecDepth 100000 in
theorem q_Bl_addToEdge_l38 {C : Cx} {nx : Nat} (hnx : 80 ≤ nx) (r1 : Nat) (h_r1 : isRow nx r1) (x2 : Int) (x3 : Int) (x4 : Int) (x5 : Int) (x6 : Int) (x7 : Int) (x8 : Int) (s : Sg) {o : Sg} (hs : Bl_addToEdge_l38 r1 x2 x3 x4 x5 x6 x7 x8 s = some o) : ww C M_X0_addToEdge 2 0 0 nx (QV nx o) (XF) nx 0 0 38 [(0, .ref 56), (1, .ref r1), (2, vi x2), (3, vi x3), (4, vi x4), (5, vi x5), (6, vi x6), (7, vi x7), (8, vi x8)] [] (hp nx s) := by
  unfold Bl_addToEdge_l38 at hs
  refine bnd_e hs (fun ρ hw hs => ?_)
  obtain ⟨x6_6, x7_7⟩ := ρ
  have hE : ww C M_X0_addToEdge 2 0 0 nx (QV nx o) (XF) nx 0 0 105 [(0, .ref 56), (1, .ref r1), (2, vi x2), (3, vi x3), (6, vi x6_6), (7, vi x7_7)] [] (hp nx s) := by
    refine w_iload 4 dX0_addToEdge_105 rfl ?_
    refine w_iload 5 dX0_addToEdge_107 rfl ?_
    refine x_icmpeq hs dX0_addToEdge_109 rfl (fun hs => ?_) (fun hs => ?_)
    · cases hs
      exact w_return rfl dX0_addToEdge_126 rfl (Nat.le_of_ble_eq_true rfl) (Nat.le_of_ble_eq_true rfl) ⟨rfl, rfl⟩
    · refine w_aload_n 0 dX0_addToEdge_112 rfl rfl ?_
      refine w_aload_n 1 dX0_addToEdge_113 rfl rfl ?_
      refine w_iload_n 2 dX0_addToEdge_114 rfl rfl ?_
      refine x_bipush dX0_addToEdge_115 (by decide) ?_
      refine w_iload_n 3 dX0_addToEdge_117 rfl rfl ?_
      refine x_isub dX0_addToEdge_118 ?_
      refine w_iload 4 dX0_addToEdge_119 rfl ?_
      refine w_iload 5 dX0_addToEdge_121 rfl ?_
      refine x_V_V M_X0_addIfFree [.ref r1, vi x2, vi ((-10) - x3), vi x6_6, vi x7_7] [] hs rfl dX0_addToEdge_123 (lkX0_86 _ rfl) (lt_of hnx (Nat.le_of_ble_eq_true rfl)) rfl rfl (Nat.le_of_ble_eq_true rfl) (Nat.le_of_ble_eq_true rfl) (Nat.le_of_ble_eq_true rfl) (Nat.le_of_ble_eq_true rfl) (c_Bl_addIfFree hnx r1 h_r1 x2 ((-10) - x3) x6_6 x7_7 s) (fun s9 hs9 hs => ?_)
      cases hs
      exact w_return rfl dX0_addToEdge_126 rfl (Nat.le_of_ble_eq_true rfl) (Nat.le_of_ble_eq_true rfl) ⟨rfl, rfl⟩
  refine whl_w (P := fun σ => ww C M_X0_addToEdge 2 0 0 nx (QV nx o) (XF) nx 0 0 38 [(0, .ref 56), (1, .ref r1), (2, vi x2), (3, vi x3), (4, vi x4), (5, vi x5), (6, vi σ.1), (7, vi σ.2.1), (8, vi σ.2.2)] [] (hp nx s)) (E := fun ρ => ρ = (x6_6, x7_7)) hw rfl ?_
  intro σ o' hs' hb' he'
  exact q_Bl_addToEdge_t38 hnx r1 h_r1 x2 x3 x4 x5 σ.1 σ.2.1 σ.2.2 s hs' hb' (fun ρ e => by cases he' _ e; exact hE)
set_option maxRecDepth 100000 in
theorem c_Bl_addToEdge {C : Cx} {nx : Nat} (hnx : 80 ≤ nx) (r1 : Nat) (h_r1 : isRow nx r1) (x2 : Int) (x3 : Int) (s : Sg) : ∀ o, Bl_addToEdge r1 x2 x3 s = some o → mm C M_X0_addToEdge 2 0 0 nx nx [.ref 56, .ref r1, vi x2, vi x3] (hp nx s) (QV nx o) (XF) := by
  intro o hs
  unfold Bl_addToEdge at hs
  refine mm_of rfl rfl (Nat.le_of_ble_eq_true rfl) ?_
  show ww C M_X0_addToEdge 2 0 0 nx (QV nx o) (XF) nx 0 0 0 [(0, .ref 56), (1, .ref r1), (2, vi x2), (3, vi x3)] [] (hp nx s)
  refine w_aload_n 1 dX0_addToEdge_0 rfl rfl ?_
  refine w_iload_n 2 dX0_addToEdge_1 rfl rfl ?_
  refine x_N_I M_X11_at [.ref r1, vi x2] [] hs rfl dX0_addToEdge_2 (lkX0_47 _ rfl) (Nat.le_of_ble_eq_true rfl) (Nat.le_of_ble_eq_true rfl) (Nat.le_of_ble_eq_true rfl) (Nat.le_of_ble_eq_true rfl) (c_Hx_at hnx r1 h_r1 x2 s) (fun y1 hy1 hs => ?_)
  refine w_istore (lv' := [(4, vi y1), (0, .ref 56), (1, .ref r1), (2, vi x2), (3, vi x3)]) dX0_addToEdge_5 (Nat.le_of_ble_eq_true rfl) rfl ?_
  refine x_iconst dX0_addToEdge_7 ?_
  refine w_iload_n 4 dX0_addToEdge_8 rfl rfl ?_
  refine x_ishl dX0_addToEdge_9 ?_
  refine x_istore (fun x5_2 => [(5, vi x5_2), (4, vi y1), (0, .ref 56), (1, .ref r1), (2, vi x2), (3, vi x3)]) hs dX0_addToEdge_10 (Nat.le_of_ble_eq_true rfl) (fun _ => rfl) (fun x5_2 hs => ?_)
  refine w_aload_n 2 dX0_addToEdge_12 rfl rfl ?_
  refine x_getR 0 0 (b := 1) dX0_addToEdge_13 (fxX0_9 rfl) rfl rfl (lt_of hnx (Nat.le_of_ble_eq_true rfl)) rfl ?_
  refine w_iload_n 4 dX0_addToEdge_16 rfl rfl ?_
  refine w_iload 1 dX0_addToEdge_17 rfl ?_
  refine x_V_I M_X5_edges [vi x2, vi y1] [] hs rfl dX0_addToEdge_19 (lkX0_90 _ rfl) (lt_of hnx (Nat.le_of_ble_eq_true rfl)) rfl rfl (Nat.le_of_ble_eq_true rfl) (Nat.le_of_ble_eq_true rfl) (Nat.le_of_ble_eq_true rfl) (Nat.le_of_ble_eq_true rfl) (c_Gr_edges hnx x2 y1 s) (fun y3 hy3 hs => ?_)
  refine w_iload 0 dX0_addToEdge_22 rfl ?_
  refine x_iand dX0_addToEdge_24 ?_
  refine x_ifeq hs dX0_addToEdge_25 rfl (fun hs => ?_) (fun hs => ?_)
  · refine x_iconst dX0_addToEdge_29 ?_
    refine w_istore (lv' := [(6, vi (-1)), (5, vi x5_2), (4, vi y1), (0, .ref 56), (1, .ref r1), (2, vi x2), (3, vi x3)]) dX0_addToEdge_30 (Nat.le_of_ble_eq_true rfl) rfl ?_
    refine x_iconst dX0_addToEdge_32 ?_
    refine w_istore (lv' := [(7, vi (-1)), (6, vi (-1)), (5, vi x5_2), (4, vi y1), (0, .ref 56), (1, .ref r1), (2, vi x2), (3, vi x3)]) dX0_addToEdge_33 (Nat.le_of_ble_eq_true rfl) rfl ?_
    refine x_iconst dX0_addToEdge_35 ?_
    refine w_istore (lv' := [(8, vi 0), (7, vi (-1)), (6, vi (-1)), (5, vi x5_2), (4, vi y1), (0, .ref 56), (1, .ref r1), (2, vi x2), (3, vi x3)]) dX0_addToEdge_36 (Nat.le_of_ble_eq_true rfl) rfl ?_
    refine w_lv (lv' := [(0, .ref 56), (1, .ref r1), (2, vi x2), (3, vi x3), (4, vi y1), (5, vi x5_2), (6, vi (-1)), (7, vi (-1)), (8, vi 0)]) [5, 6, 7, 8, 4, 3, 2, 1, 0] rfl ?_
    exact q_Bl_addToEdge_l38 hnx r1 h_r1 x2 x3 y1 x5_2 (-1) (-1) 0 s hs
  · cases hs
    exact w_return rfl dX0_addToEdge_28 rfl (Nat.le_of_ble_eq_true rfl) (Nat.le_of_ble_eq_true rfl) ⟨rfl, rfl⟩

set_option maxRecDepth 100000 in
theorem c_La_step {C : Cx} {nx : Nat} (hnx : 80 ≤ nx) (x2 : Int) (s : Sg) : ∀ o, La_step x2 s = some o → mm C M_L_step 11 0 0 nx nx [.ref 0, .ref 1200, vi x2] (hp nx s) (QV nx o) (XF) := by
  intro o hs
  unfold La_step at hs
  refine mm_of rfl rfl (Nat.le_of_ble_eq_true rfl) ?_
  show ww C M_L_step 11 0 0 nx (QV nx o) (XF) nx 0 0 0 [(0, .ref 0), (1, .ref 1200), (2, vi x2)] [] (hp nx s)
  refine w_aload_n 1 dL_step_0 rfl rfl ?_
  refine w_iload_n 2 dL_step_1 rfl rfl ?_
  refine x_iconst dL_step_2 ?_
  refine x_iadd dL_step_3 ?_
  refine x_S_I M_L_cell [.ref 1200, vi (x2 + 1)] [] hs rfl dL_step_4 (lkL_33 _ rfl) (Nat.le_of_ble_eq_true rfl) (Nat.le_of_ble_eq_true rfl) (Nat.le_of_ble_eq_true rfl) (Nat.le_of_ble_eq_true rfl) (c_La_cell hnx (x2 + 1) s) (fun y1 hy1 hs => ?_)
  refine w_istore_n (lv' := [(3, vi y1), (0, .ref 0), (1, .ref 1200), (2, vi x2)]) dL_step_7 rfl (Nat.le_of_ble_eq_true rfl) rfl ?_
  refine w_aload_n 2 dL_step_8 rfl rfl ?_
  refine w_iload_n 3 dL_step_9 rfl rfl ?_
  refine x_iconst dL_step_10 ?_
  refine x_iadd dL_step_11 ?_
  refine x_S_I M_L_cell [.ref 1200, vi (x2 + 2)] [] hs rfl dL_step_12 (lkL_33 _ rfl) (Nat.le_of_ble_eq_true rfl) (Nat.le_of_ble_eq_true rfl) (Nat.le_of_ble_eq_true rfl) (Nat.le_of_ble_eq_true rfl) (c_La_cell hnx (x2 + 2) s) (fun y2 hy2 hs => ?_)
  refine w_istore (lv' := [(4, vi y2), (3, vi y1), (0, .ref 0), (1, .ref 1200), (2, vi x2)]) dL_step_15 (Nat.le_of_ble_eq_true rfl) rfl ?_
  refine w_aload_n 2 dL_step_17 rfl rfl ?_
  refine x_iconst dL_step_18 ?_
  refine x_V_Tr M_X11_size [vi 0] [] hs rfl dL_step_19 (lkL_74 _ rfl) (lt_of hnx (Nat.le_of_ble_eq_true rfl)) rfl rfl (Nat.le_of_ble_eq_true rfl) (Nat.le_of_ble_eq_true rfl) (Nat.le_of_ble_eq_true rfl) (Nat.le_of_ble_eq_true rfl) (c_Hx_size hnx 0 s) (fun y3 s4 hy3 hs => ?_)
  refine w_aload_n 2 dL_step_22 rfl rfl ?_
  refine x_iconst dL_step_23 ?_
  refine x_V_Tr M_X11_size [vi 0] [vi y3] hs rfl dL_step_24 (lkL_74 _ rfl) (lt_of hnx (Nat.le_of_ble_eq_true rfl)) rfl rfl (Nat.le_of_ble_eq_true rfl) (Nat.le_of_ble_eq_true rfl) (Nat.le_of_ble_eq_true rfl) (Nat.le_of_ble_eq_true rfl) (c_Hx_size hnx 0 s4) (fun y5 s6 hy5 hs => ?_)
  refine x_imul dL_step_27 ?_
  refine x_istore (fun x5_7 => [(5, vi x5_7), (4, vi y2), (3, vi y1), (0, .ref 0), (1, .ref 1200), (2, vi x2)]) hs dL_step_28 (Nat.le_of_ble_eq_true rfl) (fun _ => rfl) (fun x5_7 hs => ?_)
  refine w_aload_n 4 dL_step_30 rfl rfl ?_
  refine w_iload_n 5 dL_step_31 rfl rfl ?_
  refine x_S_I M_L_cell [.ref 1200, vi x2] [] hs rfl dL_step_32 (lkL_33 _ rfl) (Nat.le_of_ble_eq_true rfl) (Nat.le_of_ble_eq_true rfl) (Nat.le_of_ble_eq_true rfl) (Nat.le_of_ble_eq_true rfl) (c_La_cell hnx x2 s6) (fun y8 hy8 hs => ?_)
  refine x_bipush dL_step_35 (by decide) ?_
  refine grd_e hs (fun hg9 hs => ?_)
  refine x_irem dL_step_37 ⟨hg9.1, by decide, hg9.2.2⟩ ?_
  refine ifEq_c hs (fun hR14 hz13 hs => ?_) (fun hR14 hz13 hs => ?_)
  · refine x_tableIn 0 hz13 (by unfold R; omega) dL_step_38 (by decide) (by decide) rfl rfl ?_
    refine w_aload_n 3 dL_step_96 rfl rfl ?_
    refine w_iload_n 2 dL_step_97 rfl rfl ?_
    refine w_iload 0 dL_step_98 rfl ?_
    refine grd_e hs (fun hg10 hs => ?_)
    refine x_irem dL_step_100 hg10 ?_
    refine x_V_Tr M_X11_move [vi (y1 % x5_7)] [] hs rfl dL_step_101 (lkL_77 _ rfl) (lt_of hnx (Nat.le_of_ble_eq_true rfl)) rfl rfl (Nat.le_of_ble_eq_true rfl) (Nat.le_of_ble_eq_true rfl) (Nat.le_of_ble_eq_true rfl) (Nat.le_of_ble_eq_true rfl) (c_Hx_move hnx (y1 % x5_7) s6) (fun y11 s12 hy11 hs => ?_)
    refine w_pop dL_step_104 rfl ?_
    refine w_goto dL_step_105 rfl ?_
    cases hs
    exact w_return rfl dL_step_201 rfl (Nat.le_of_ble_eq_true rfl) (Nat.le_of_ble_eq_true rfl) ⟨rfl, rfl⟩
  refine ifEq_c hs (fun hR19 hz18 hs => ?_) (fun hR19 hz18 hs => ?_)
  · refine x_tableIn 1 hz18 (by unfold R; omega) dL_step_38 (by decide) (by decide) rfl rfl ?_
    refine w_aload_n 3 dL_step_96 rfl rfl ?_
    refine w_iload_n 2 dL_step_97 rfl rfl ?_
    refine w_iload 0 dL_step_98 rfl ?_
    refine grd_e hs (fun hg15 hs => ?_)
    refine x_irem dL_step_100 hg15 ?_
    refine x_V_Tr M_X11_move [vi (y1 % x5_7)] [] hs rfl dL_step_101 (lkL_77 _ rfl) (lt_of hnx (Nat.le_of_ble_eq_true rfl)) rfl rfl (Nat.le_of_ble_eq_true rfl) (Nat.le_of_ble_eq_true rfl) (Nat.le_of_ble_eq_true rfl) (Nat.le_of_ble_eq_true rfl) (c_Hx_move hnx (y1 % x5_7) s6) (fun y16 s17 hy16 hs => ?_)
    refine w_pop dL_step_104 rfl ?_
    refine w_goto dL_step_105 rfl ?_
    cases hs
    exact w_return rfl dL_step_201 rfl (Nat.le_of_ble_eq_true rfl) (Nat.le_of_ble_eq_true rfl) ⟨rfl, rfl⟩
  refine ifEq_c hs (fun hR24 hz23 hs => ?_) (fun hR24 hz23 hs => ?_)
  · refine x_tableIn 2 hz23 (by unfold R; omega) dL_step_38 (by decide) (by decide) rfl rfl ?_
    refine w_aload_n 3 dL_step_96 rfl rfl ?_
    refine w_iload_n 2 dL_step_97 rfl rfl ?_
    refine w_iload 0 dL_step_98 rfl ?_
    refine grd_e hs (fun hg20 hs => ?_)
    refine x_irem dL_step_100 hg20 ?_
    refine x_V_Tr M_X11_move [vi (y1 % x5_7)] [] hs rfl dL_step_101 (lkL_77 _ rfl) (lt_of hnx (Nat.le_of_ble_eq_true rfl)) rfl rfl (Nat.le_of_ble_eq_true rfl) (Nat.le_of_ble_eq_true rfl) (Nat.le_of_ble_eq_true rfl) (Nat.le_of_ble_eq_true rfl) (c_Hx_move hnx (y1 % x5_7) s6) (fun y21 s22 hy21 hs => ?_)
    refine w_pop dL_step_104 rfl ?_
    refine w_goto dL_step_105 rfl ?_
    cases hs
    exact w_return rfl dL_step_201 rfl (Nat.le_of_ble_eq_true rfl) (Nat.le_of_ble_eq_true rfl) ⟨rfl, rfl⟩
  refine ifEq_c hs (fun hR29 hz28 hs => ?_) (fun hR29 hz28 hs => ?_)
  · refine x_tableIn 3 hz28 (by unfold R; omega) dL_step_38 (by decide) (by decide) rfl rfl ?_
    refine w_aload_n 3 dL_step_96 rfl rfl ?_
    refine w_iload_n 2 dL_step_97 rfl rfl ?_
    refine w_iload 0 dL_step_98 rfl ?_
    refine grd_e hs (fun hg25 hs => ?_)
    refine x_irem dL_step_100 hg25 ?_
    refine x_V_Tr M_X11_move [vi (y1 % x5_7)] [] hs rfl dL_step_101 (lkL_77 _ rfl) (lt_of hnx (Nat.le_of_ble_eq_true rfl)) rfl rfl (Nat.le_of_ble_eq_true rfl) (Nat.le_of_ble_eq_true rfl) (Nat.le_of_ble_eq_true rfl) (Nat.le_of_ble_eq_true rfl) (c_Hx_move hnx (y1 % x5_7) s6) (fun y26 s27 hy26 hs => ?_)
    refine w_pop dL_step_104 rfl ?_
    refine w_goto dL_step_105 rfl ?_
    cases hs
    exact w_return rfl dL_step_201 rfl (Nat.le_of_ble_eq_true rfl) (Nat.le_of_ble_eq_true rfl) ⟨rfl, rfl⟩
  refine ifEq_c hs (fun hR34 hz33 hs => ?_) (fun hR34 hz33 hs => ?_)
  · refine x_tableIn 4 hz33 (by unfold R; omega) dL_step_38 (by decide) (by decide) rfl rfl ?_
    refine w_aload_n 3 dL_step_96 rfl rfl ?_
    refine w_iload_n 2 dL_step_97 rfl rfl ?_
    refine w_iload 0 dL_step_98 rfl ?_
    refine grd_e hs (fun hg30 hs => ?_)
    refine x_irem dL_step_100 hg30 ?_
    refine x_V_Tr M_X11_move [vi (y1 % x5_7)] [] hs rfl dL_step_101 (lkL_77 _ rfl) (lt_of hnx (Nat.le_of_ble_eq_true rfl)) rfl rfl (Nat.le_of_ble_eq_true rfl) (Nat.le_of_ble_eq_true rfl) (Nat.le_of_ble_eq_true rfl) (Nat.le_of_ble_eq_true rfl) (c_Hx_move hnx (y1 % x5_7) s6) (fun y31 s32 hy31 hs => ?_)
    refine w_pop dL_step_104 rfl ?_
    refine w_goto dL_step_105 rfl ?_
    cases hs
    exact w_return rfl dL_step_201 rfl (Nat.le_of_ble_eq_true rfl) (Nat.le_of_ble_eq_true rfl) ⟨rfl, rfl⟩
  refine ifEq_c hs (fun hR40 hz39 hs => ?_) (fun hR40 hz39 hs => ?_)
  · refine x_tableIn 5 hz39 (by unfold R; omega) dL_step_38 (by decide) (by decide) rfl rfl ?_
    refine w_aload_n 3 dL_step_108 rfl rfl ?_
    refine w_iload_n 2 dL_step_109 rfl rfl ?_
    refine w_iload 0 dL_step_110 rfl ?_
    refine grd_e hs (fun hg35 hs => ?_)
    refine x_irem dL_step_112 hg35 ?_
    refine w_iload 1 dL_step_113 rfl ?_
    refine x_iconst dL_step_115 ?_
    refine grd_e hs (fun hg36 hs => ?_)
    refine x_irem dL_step_116 ⟨hg36.1, by decide, hg36.2.2⟩ ?_
    refine x_iconst dL_step_117 ?_
    refine x_isub dL_step_118 ?_
    refine x_V_Tr M_X11_put [vi (y1 % x5_7), vi ((y2 % 3) - 1)] [] hs rfl dL_step_119 (lkL_80 _ rfl) (lt_of hnx (Nat.le_of_ble_eq_true rfl)) rfl rfl (Nat.le_of_ble_eq_true rfl) (Nat.le_of_ble_eq_true rfl) (Nat.le_of_ble_eq_true rfl) (Nat.le_of_ble_eq_true rfl) (c_Hx_put hnx (y1 % x5_7) ((y2 % 3) - 1) s6) (fun y37 s38 hy37 hs => ?_)
    refine w_pop dL_step_122 rfl ?_
    refine w_goto dL_step_123 rfl ?_
    cases hs
    exact w_return rfl dL_step_201 rfl (Nat.le_of_ble_eq_true rfl) (Nat.le_of_ble_eq_true rfl) ⟨rfl, rfl⟩
  refine ifEq_c hs (fun hR45 hz44 hs => ?_) (fun hR45 hz44 hs => ?_)
  · refine x_tableIn 6 hz44 (by unfold R; omega) dL_step_38 (by decide) (by decide) rfl rfl ?_
    refine w_aload_n 3 dL_step_126 rfl rfl ?_
    refine w_iload 1 dL_step_127 rfl ?_
    refine x_iconst dL_step_129 ?_
    refine grd_e hs (fun hg41 hs => ?_)
    refine x_irem dL_step_130 ⟨hg41.1, by decide, hg41.2.2⟩ ?_
    refine x_V_Tr M_X11_setTurn [vi (y2 % 2)] [] hs rfl dL_step_131 (lkL_84 _ rfl) (lt_of hnx (Nat.le_of_ble_eq_true rfl)) rfl rfl (Nat.le_of_ble_eq_true rfl) (Nat.le_of_ble_eq_true rfl) (Nat.le_of_ble_eq_true rfl) (Nat.le_of_ble_eq_true rfl) (c_Hx_setTurn hnx (y2 % 2) s6) (fun y42 s43 hy42 hs => ?_)
    refine w_pop dL_step_134 rfl ?_
    refine w_goto dL_step_135 rfl ?_
    cases hs
    exact w_return rfl dL_step_201 rfl (Nat.le_of_ble_eq_true rfl) (Nat.le_of_ble_eq_true rfl) ⟨rfl, rfl⟩
  refine ifEq_c hs (fun hR49 hz48 hs => ?_) (fun hR49 hz48 hs => ?_)
  · refine x_tableIn 7 hz48 (by unfold R; omega) dL_step_38 (by decide) (by decide) rfl rfl ?_
    refine w_aload_n 3 dL_step_138 rfl rfl ?_
    refine x_V_B M_X11_swap [] [] hs rfl dL_step_139 (lkL_87 _ rfl) (lt_of hnx (Nat.le_of_ble_eq_true rfl)) rfl rfl (Nat.le_of_ble_eq_true rfl) (Nat.le_of_ble_eq_true rfl) (Nat.le_of_ble_eq_true rfl) (Nat.le_of_ble_eq_true rfl) (c_Hx_swap hnx s6) (fun y46 s47 hy46 hs => ?_)
    refine w_pop dL_step_142 rfl ?_
    refine w_goto dL_step_143 rfl ?_
    cases hs
    exact w_return rfl dL_step_201 rfl (Nat.le_of_ble_eq_true rfl) (Nat.le_of_ble_eq_true rfl) ⟨rfl, rfl⟩
  refine ifEq_c hs (fun hR53 hz52 hs => ?_) (fun hR53 hz52 hs => ?_)
  · refine x_tableIn 8 hz52 (by unfold R; omega) dL_step_38 (by decide) (by decide) rfl rfl ?_
    refine w_aload_n 3 dL_step_146 rfl rfl ?_
    refine x_V_B M_X11_turnOver [] [] hs rfl dL_step_147 (lkL_90 _ rfl) (lt_of hnx (Nat.le_of_ble_eq_true rfl)) rfl rfl (Nat.le_of_ble_eq_true rfl) (Nat.le_of_ble_eq_true rfl) (Nat.le_of_ble_eq_true rfl) (Nat.le_of_ble_eq_true rfl) (c_Hx_turnOver hnx s6) (fun y50 s51 hy50 hs => ?_)
    refine w_pop dL_step_150 rfl ?_
    refine w_goto dL_step_151 rfl ?_
    cases hs
    exact w_return rfl dL_step_201 rfl (Nat.le_of_ble_eq_true rfl) (Nat.le_of_ble_eq_true rfl) ⟨rfl, rfl⟩
  refine ifEq_c hs (fun hR58 hz57 hs => ?_) (fun hR58 hz57 hs => ?_)
  · refine x_tableIn 9 hz57 (by unfold R; omega) dL_step_38 (by decide) (by decide) rfl rfl ?_
    refine w_aload_n 3 dL_step_154 rfl rfl ?_
    refine x_iconst dL_step_155 ?_
    refine w_iload 1 dL_step_156 rfl ?_
    refine x_iconst dL_step_158 ?_
    refine grd_e hs (fun hg54 hs => ?_)
    refine x_irem dL_step_159 ⟨hg54.1, by decide, hg54.2.2⟩ ?_
    refine x_iadd dL_step_160 ?_
    refine x_V_Tr M_X11_playForced [vi (1 + (y2 % 3))] [] hs rfl dL_step_161 (lkL_93 _ rfl) (lt_of hnx (Nat.le_of_ble_eq_true rfl)) rfl rfl (Nat.le_of_ble_eq_true rfl) (Nat.le_of_ble_eq_true rfl) (Nat.le_of_ble_eq_true rfl) (Nat.le_of_ble_eq_true rfl) (c_Hx_playForced hnx (1 + (y2 % 3)) s6) (fun y55 s56 hy55 hs => ?_)
    refine w_pop dL_step_164 rfl ?_
    refine w_goto dL_step_165 rfl ?_
    cases hs
    exact w_return rfl dL_step_201 rfl (Nat.le_of_ble_eq_true rfl) (Nat.le_of_ble_eq_true rfl) ⟨rfl, rfl⟩
  refine ifEq_c hs (fun hR66 hz65 hs => ?_) (fun hR66 hz65 hs => ?_)
  · refine x_tableIn 10 hz65 (by unfold R; omega) dL_step_38 (by decide) (by decide) rfl rfl ?_
    refine w_iload 1 dL_step_168 rfl ?_
    refine x_iconst dL_step_170 ?_
    refine grd_e hs (fun hg59 hs => ?_)
    refine x_irem dL_step_171 ⟨hg59.1, by decide, hg59.2.2⟩ ?_
    refine x_ifne hs dL_step_172 rfl (fun hs => ?_) (fun hs => ?_)
    · refine w_aload_n 3 dL_step_183 rfl rfl ?_
      refine w_iload 1 dL_step_184 rfl ?_
      refine w_iload 0 dL_step_186 rfl ?_
      refine grd_e hs (fun hg60 hs => ?_)
      refine x_irem dL_step_188 hg60 ?_
      refine x_V_Tr M_X11_move [vi (y2 % x5_7)] [] hs rfl dL_step_189 (lkL_77 _ rfl) (lt_of hnx (Nat.le_of_ble_eq_true rfl)) rfl rfl (Nat.le_of_ble_eq_true rfl) (Nat.le_of_ble_eq_true rfl) (Nat.le_of_ble_eq_true rfl) (Nat.le_of_ble_eq_true rfl) (c_Hx_move hnx (y2 % x5_7) s6) (fun y61 s62 hy61 hs => ?_)
      refine w_pop dL_step_192 rfl ?_
      refine w_goto dL_step_193 rfl ?_
      cases hs
      exact w_return rfl dL_step_201 rfl (Nat.le_of_ble_eq_true rfl) (Nat.le_of_ble_eq_true rfl) ⟨rfl, rfl⟩
    · refine w_aload_n 3 dL_step_175 rfl rfl ?_
      refine x_V_B M_X11_giveUp [] [] hs rfl dL_step_176 (lkL_96 _ rfl) (lt_of hnx (Nat.le_of_ble_eq_true rfl)) rfl rfl (Nat.le_of_ble_eq_true rfl) (Nat.le_of_ble_eq_true rfl) (Nat.le_of_ble_eq_true rfl) (Nat.le_of_ble_eq_true rfl) (c_Hx_giveUp hnx s6) (fun y63 s64 hy63 hs => ?_)
      refine w_pop dL_step_179 rfl ?_
      refine w_goto dL_step_180 rfl ?_
      cases hs
      exact w_return rfl dL_step_201 rfl (Nat.le_of_ble_eq_true rfl) (Nat.le_of_ble_eq_true rfl) ⟨rfl, rfl⟩
  refine x_tableOut hR66 dL_step_38 (by omega) rfl ?_
  refine w_aload_n 3 dL_step_196 rfl rfl ?_
  refine x_V_B M_X11_undo [] [] hs rfl dL_step_197 (lkL_99 _ rfl) (lt_of hnx (Nat.le_of_ble_eq_true rfl)) rfl rfl (Nat.le_of_ble_eq_true rfl) (Nat.le_of_ble_eq_true rfl) (Nat.le_of_ble_eq_true rfl) (Nat.le_of_ble_eq_true rfl) (c_Hx_undo hnx s6) (fun y67 s68 hy67 hs => ?_)
  refine w_pop dL_step_200 rfl ?_
  cases hs
  exact w_return rfl dL_step_201 rfl (Nat.le_of_ble_eq_true rfl) (Nat.le_of_ble_eq_true rfl) ⟨rfl, rfl⟩
set_option maxRecDepth 100000 in
theorem q_La_whole_t9 {C : Cx} {nx : Nat} (hnx : 80 ≤ nx) {Qr : Option Value → Hp → Prop} {Qx : String → Hp → Prop}  (x1 : Int) (x3 : Int) (s : Sg) {o : ((Int × Int × Sg) ⊕ (Int × Sg))} (hs : La_whole_t9 x1 x3 s = some o) (hb : ∀ σ : Int × Int × Sg, o = .inl σ → ww C M_L_whole 11 0 0 nx (Qr) (Qx) nx 0 0 9 [(0, .ref 0), (1, vl σ.1), (3, vi σ.2.1)] [] (hp nx σ.2.2)) (he0 : ∀ ρ : Int × Sg, o = .inr ρ → ww C M_L_whole 11 0 0 nx (Qr) (Qx) nx 0 0 34 [(0, .ref 0), (1, vl ρ.1)] [] (hp nx ρ.2)) : ww C M_L_whole 11 0 0 nx (Qr) (Qx) nx 0 0 9 [(0, .ref 0), (1, vl x1), (3, vi x3)] [] (hp nx s) := by
  unfold La_whole_t9 at hs
  refine w_iload_n 2 dL_whole_9 rfl rfl ?_
  refine x_bipush dL_whole_10 (by decide) ?_
  refine x_icmpgt hs dL_whole_12 rfl (fun hs => ?_) (fun hs => ?_)
  · refine w_lv (lv' := [(0, .ref 0), (1, vl x1)]) [0, 1] rfl ?_
    cases hs
    exact he0 _ rfl
  · refine x_ldc2 31 dL_whole_15 (csL_105 rfl) ?_
    refine w_lload_n 1 dL_whole_18 rfl rfl ?_
    refine x_lmul dL_whole_19 ?_
    refine w_aload_n 0 dL_whole_20 rfl rfl ?_
    refine w_iload_n 2 dL_whole_21 rfl rfl ?_
    refine x_V_Tr M_X11_size [vi x3] [vl (31 * x1)] hs rfl dL_whole_22 (lkL_74 _ rfl) (lt_of hnx (Nat.le_of_ble_eq_true rfl)) rfl rfl (Nat.le_of_ble_eq_true rfl) (Nat.le_of_ble_eq_true rfl) (Nat.le_of_ble_eq_true rfl) (Nat.le_of_ble_eq_true rfl) (c_Hx_size hnx x3 s) (fun y3 s4 hy3 hs => ?_)
    refine grd_e hs (fun hg5 hs => ?_)
    refine x_i2l dL_whole_25 hg5 ?_
    refine x_ladd dL_whole_26 ?_
    refine x_lstore_n (fun x1_6 => [(1, vl x1_6), (0, .ref 0), (3, vi x3)]) hs dL_whole_27 rfl (Nat.le_of_ble_eq_true rfl) (fun _ => rfl) (fun x1_6 hs => ?_)
    refine x_iinc (lv' := [(3, vi (x3 + 1)), (1, vl x1_6), (0, .ref 0)]) 2 dL_whole_28 rfl (Nat.le_of_ble_eq_true rfl) rfl ?_
    refine w_goto dL_whole_31 rfl ?_
    refine w_lv (lv' := [(0, .ref 0), (1, vl x1_6), (3, vi (x3 + 1))]) [2, 1, 0] rfl ?_
    cases hs
    exact hb _ rfl
set_option maxRecDepth 100000 in
theorem q_La_whole_t36 {C : Cx} {nx : Nat} (hnx : 80 ≤ nx) {Qr : Option Value → Hp → Prop} {Qx : String → Hp → Prop}  (x1 : Int) (x3 : Int) (s : Sg) {o : ((Int × Int × Sg) ⊕ (Int × Sg))} (hs : La_whole_t36 x1 x3 s = some o) (hb : ∀ σ : Int × Int × Sg, o = .inl σ → ww C M_L_whole 11 0 0 nx (Qr) (Qx) nx 0 0 36 [(0, .ref 0), (1, vl σ.1), (3, vi σ.2.1)] [] (hp nx σ.2.2)) (he0 : ∀ ρ : Int × Sg, o = .inr ρ → ww C M_L_whole 11 0 0 nx (Qr) (Qx) nx 0 0 70 [(0, .ref 0), (1, vl ρ.1)] [] (hp nx ρ.2)) : ww C M_L_whole 11 0 0 nx (Qr) (Qx) nx 0 0 36 [(0, .ref 0), (1, vl x1), (3, vi x3)] [] (hp nx s) := by
  unfold La_whole_t36 at hs
  refine w_iload_n 2 dL_whole_36 rfl rfl ?_
  refine w_aload_n 0 dL_whole_37 rfl rfl ?_
  refine x_iconst dL_whole_38 ?_
  refine x_V_Tr M_X11_size [vi 0] [vi x3] hs rfl dL_whole_39 (lkL_74 _ rfl) (lt_of hnx (Nat.le_of_ble_eq_true rfl)) rfl rfl (Nat.le_of_ble_eq_true rfl) (Nat.le_of_ble_eq_true rfl) (Nat.le_of_ble_eq_true rfl) (Nat.le_of_ble_eq_true rfl) (c_Hx_size hnx 0 s) (fun y9 s10 hy9 hs => ?_)
  refine w_aload_n 0 dL_whole_42 rfl rfl ?_
  refine x_iconst dL_whole_43 ?_
  refine x_V_Tr M_X11_size [vi 0] [vi y9, vi x3] hs rfl dL_whole_44 (lkL_74 _ rfl) (lt_of hnx (Nat.le_of_ble_eq_true rfl)) rfl rfl (Nat.le_of_ble_eq_true rfl) (Nat.le_of_ble_eq_true rfl) (Nat.le_of_ble_eq_true rfl) (Nat.le_of_ble_eq_true rfl) (c_Hx_size hnx 0 s10) (fun y11 s12 hy11 hs => ?_)
  refine x_imul dL_whole_47 ?_
  refine x_icmpge hs dL_whole_48 rfl (fun hs => ?_) (fun hs => ?_)
  · refine w_lv (lv' := [(0, .ref 0), (1, vl x1)]) [0, 1] rfl ?_
    cases hs
    exact he0 _ rfl
  · refine x_ldc2 31 dL_whole_51 (csL_105 rfl) ?_
    refine w_lload_n 1 dL_whole_54 rfl rfl ?_
    refine x_lmul dL_whole_55 ?_
    refine w_aload_n 0 dL_whole_56 rfl rfl ?_
    refine w_iload_n 2 dL_whole_57 rfl rfl ?_
    refine x_V_Tr M_X11_cell [vi x3] [vl (31 * x1)] hs rfl dL_whole_58 (lkL_107 _ rfl) (lt_of hnx (Nat.le_of_ble_eq_true rfl)) rfl rfl (Nat.le_of_ble_eq_true rfl) (Nat.le_of_ble_eq_true rfl) (Nat.le_of_ble_eq_true rfl) (Nat.le_of_ble_eq_true rfl) (c_Hx_cell hnx x3 s12) (fun y13 s14 hy13 hs => ?_)
    refine grd_e hs (fun hg15 hs => ?_)
    refine x_i2l dL_whole_61 hg15 ?_
    refine x_ladd dL_whole_62 ?_
    refine x_lstore_n (fun x1_16 => [(1, vl x1_16), (0, .ref 0), (3, vi x3)]) hs dL_whole_63 rfl (Nat.le_of_ble_eq_true rfl) (fun _ => rfl) (fun x1_16 hs => ?_)
    refine x_iinc (lv' := [(3, vi (x3 + 1)), (1, vl x1_16), (0, .ref 0)]) 2 dL_whole_64 rfl (Nat.le_of_ble_eq_true rfl) rfl ?_
    refine w_goto dL_whole_67 rfl ?_
    refine w_lv (lv' := [(0, .ref 0), (1, vl x1_16), (3, vi (x3 + 1))]) [2, 1, 0] rfl ?_
    cases hs
    exact hb _ rfl
set_option maxRecDepth 100000 in
theorem q_La_whole_t72 {C : Cx} {nx : Nat} (hnx : 80 ≤ nx) {Qr : Option Value → Hp → Prop} {Qx : String → Hp → Prop}  (x1 : Int) (x3 : Int) (s : Sg) {o : ((Int × Int × Sg) ⊕ (Int × Sg))} (hs : La_whole_t72 x1 x3 s = some o) (hb : ∀ σ : Int × Int × Sg, o = .inl σ → ww C M_L_whole 11 0 0 nx (Qr) (Qx) nx 0 0 72 [(0, .ref 0), (1, vl σ.1), (3, vi σ.2.1)] [] (hp nx σ.2.2)) (he0 : ∀ ρ : Int × Sg, o = .inr ρ → ww C M_L_whole 11 0 0 nx (Qr) (Qx) nx 0 0 100 [(1, vl ρ.1)] [] (hp nx ρ.2)) : ww C M_L_whole 11 0 0 nx (Qr) (Qx) nx 0 0 72 [(0, .ref 0), (1, vl x1), (3, vi x3)] [] (hp nx s) := by
  unfold La_whole_t72 at hs
  refine w_iload_n 2 dL_whole_72 rfl rfl ?_
  refine w_aload_n 0 dL_whole_73 rfl rfl ?_
  refine x_iconst dL_whole_74 ?_
  refine x_V_Tr M_X11_size [vi 4] [vi x3] hs rfl dL_whole_75 (lkL_74 _ rfl) (lt_of hnx (Nat.le_of_ble_eq_true rfl)) rfl rfl (Nat.le_of_ble_eq_true rfl) (Nat.le_of_ble_eq_true rfl) (Nat.le_of_ble_eq_true rfl) (Nat.le_of_ble_eq_true rfl) (c_Hx_size hnx 4 s) (fun y19 s20 hy19 hs => ?_)
  refine x_icmpge hs dL_whole_78 rfl (fun hs => ?_) (fun hs => ?_)
  · refine w_lv (lv' := [(1, vl x1)]) [1] rfl ?_
    cases hs
    exact he0 _ rfl
  · refine x_ldc2 31 dL_whole_81 (csL_105 rfl) ?_
    refine w_lload_n 1 dL_whole_84 rfl rfl ?_
    refine x_lmul dL_whole_85 ?_
    refine w_aload_n 0 dL_whole_86 rfl rfl ?_
    refine w_iload_n 2 dL_whole_87 rfl rfl ?_
    refine x_V_I M_X11_moveAt [vi x3] [vl (31 * x1)] hs rfl dL_whole_88 (lkL_102 _ rfl) (lt_of hnx (Nat.le_of_ble_eq_true rfl)) rfl rfl (Nat.le_of_ble_eq_true rfl) (Nat.le_of_ble_eq_true rfl) (Nat.le_of_ble_eq_true rfl) (Nat.le_of_ble_eq_true rfl) (c_Hx_moveAt hnx x3 s20) (fun y21 hy21 hs => ?_)
    refine grd_e hs (fun hg22 hs => ?_)
    refine x_i2l dL_whole_91 hg22 ?_
    refine x_ladd dL_whole_92 ?_
    refine x_lstore_n (fun x1_23 => [(1, vl x1_23), (0, .ref 0), (3, vi x3)]) hs dL_whole_93 rfl (Nat.le_of_ble_eq_true rfl) (fun _ => rfl) (fun x1_23 hs => ?_)
    refine x_iinc (lv' := [(3, vi (x3 + 1)), (1, vl x1_23), (0, .ref 0)]) 2 dL_whole_94 rfl (Nat.le_of_ble_eq_true rfl) rfl ?_
    refine w_goto dL_whole_97 rfl ?_
    refine w_lv (lv' := [(0, .ref 0), (1, vl x1_23), (3, vi (x3 + 1))]) [2, 1, 0] rfl ?_
    cases hs
    exact hb _ rfl
set_option maxRecDepth 100000 in
theorem q_La_whole_l72 {C : Cx} {nx : Nat} (hnx : 80 ≤ nx) (x1 : Int) (x3 : Int) (s : Sg) {o : Int × Sg} (hs : La_whole_l72 x1 x3 s = some o) : ww C M_L_whole 11 0 0 nx (QJ nx o.2 o.1) (XF) nx 0 0 72 [(0, .ref 0), (1, vl x1), (3, vi x3)] [] (hp nx s) := by
  unfold La_whole_l72 at hs
  refine bnd_e hs (fun ρ hw hs => ?_)
  obtain ⟨x1_24, s_25⟩ := ρ
  have hE : ww C M_L_whole 11 0 0 nx (QJ nx o.2 o.1) (XF) nx 0 0 100 [(1, vl x1_24)] [] (hp nx s_25) := by
    refine w_lload_n 0 dL_whole_100 rfl rfl ?_
    cases hs
    exact w_lreturn rfl dL_whole_101 rfl (Nat.le_of_ble_eq_true rfl) (Nat.le_of_ble_eq_true rfl) ⟨rfl, rfl⟩
  refine whl_w (P := fun σ => ww C M_L_whole 11 0 0 nx (QJ nx o.2 o.1) (XF) nx 0 0 72 [(0, .ref 0), (1, vl σ.1), (3, vi σ.2.1)] [] (hp nx σ.2.2)) (E := fun ρ => ρ = (x1_24, s_25)) hw rfl ?_
  intro σ o' hs' hb' he'
  exact q_La_whole_t72 hnx σ.1 σ.2.1 σ.2.2 hs' hb' (fun ρ e => by cases he' _ e; exact hE)
set_option maxRecDepth 100000 in
theorem q_La_whole_l36 {C : Cx} {nx : Nat} (hnx : 80 ≤ nx) (x1 : Int) (x3 : Int) (s : Sg) {o : Int × Sg} (hs : La_whole_l36 x1 x3 s = some o) : ww C M_L_whole 11 0 0 nx (QJ nx o.2 o.1) (XF) nx 0 0 36 [(0, .ref 0), (1, vl x1), (3, vi x3)] [] (hp nx s) := by
  unfold La_whole_l36 at hs
  refine bnd_e hs (fun ρ hw hs => ?_)
  obtain ⟨x1_17, s_18⟩ := ρ
  have hE : ww C M_L_whole 11 0 0 nx (QJ nx o.2 o.1) (XF) nx 0 0 70 [(0, .ref 0), (1, vl x1_17)] [] (hp nx s_18) := by
    refine x_iconst dL_whole_70 ?_
    refine w_istore_n (lv' := [(3, vi 0), (0, .ref 0), (1, vl x1_17)]) dL_whole_71 rfl (Nat.le_of_ble_eq_true rfl) rfl ?_
    refine w_lv (lv' := [(0, .ref 0), (1, vl x1_17), (3, vi 0)]) [1, 2, 0] rfl ?_
    exact q_La_whole_l72 hnx x1_17 0 s_18 hs
  refine whl_w (P := fun σ => ww C M_L_whole 11 0 0 nx (QJ nx o.2 o.1) (XF) nx 0 0 36 [(0, .ref 0), (1, vl σ.1), (3, vi σ.2.1)] [] (hp nx σ.2.2)) (E := fun ρ => ρ = (x1_17, s_18)) hw rfl ?_
  intro σ o' hs' hb' he'
  exact q_La_whole_t36 hnx σ.1 σ.2.1 σ.2.2 hs' hb' (fun ρ e => by cases he' _ e; exact hE)
set_option maxRecDepth 100000 in
theorem q_La_whole_l9 {C : Cx} {nx : Nat} (hnx : 80 ≤ nx) (x1 : Int) (x3 : Int) (s : Sg) {o : Int × Sg} (hs : La_whole_l9 x1 x3 s = some o) : ww C M_L_whole 11 0 0 nx (QJ nx o.2 o.1) (XF) nx 0 0 9 [(0, .ref 0), (1, vl x1), (3, vi x3)] [] (hp nx s) := by
  unfold La_whole_l9 at hs
  refine bnd_e hs (fun ρ hw hs => ?_)
  obtain ⟨x1_7, s_8⟩ := ρ
  have hE : ww C M_L_whole 11 0 0 nx (QJ nx o.2 o.1) (XF) nx 0 0 34 [(0, .ref 0), (1, vl x1_7)] [] (hp nx s_8) := by
    refine x_iconst dL_whole_34 ?_
    refine w_istore_n (lv' := [(3, vi 0), (0, .ref 0), (1, vl x1_7)]) dL_whole_35 rfl (Nat.le_of_ble_eq_true rfl) rfl ?_
    refine w_lv (lv' := [(0, .ref 0), (1, vl x1_7), (3, vi 0)]) [1, 2, 0] rfl ?_
    exact q_La_whole_l36 hnx x1_7 0 s_8 hs
  refine whl_w (P := fun σ => ww C M_L_whole 11 0 0 nx (QJ nx o.2 o.1) (XF) nx 0 0 9 [(0, .ref 0), (1, vl σ.1), (3, vi σ.2.1)] [] (hp nx σ.2.2)) (E := fun ρ => ρ = (x1_7, s_8)) hw rfl ?_
  intro σ o' hs' hb' he'
  exact q_La_whole_t9 hnx σ.1 σ.2.1 σ.2.2 hs' hb' (fun ρ e => by cases he' _ e; exact hE)
set_option maxRecDepth 100000 in
theorem c_La_whole {C : Cx} {nx : Nat} (hnx : 80 ≤ nx)  (s : Sg) : ∀ o, La_whole  s = some o → mm C M_L_whole 11 0 0 nx nx [.ref 0] (hp nx s) (QJ nx o.2 o.1) (XF) := by
  intro o hs
  unfold La_whole at hs
  refine mm_of rfl rfl (Nat.le_of_ble_eq_true rfl) ?_
  show ww C M_L_whole 11 0 0 nx (QJ nx o.2 o.1) (XF) nx 0 0 0 [(0, .ref 0)] [] (hp nx s)
  refine w_aload_n 0 dL_whole_0 rfl rfl ?_
  refine x_iconst dL_whole_1 ?_
  refine x_V_I M_X11_moveAt [vi 0] [] hs rfl dL_whole_2 (lkL_102 _ rfl) (lt_of hnx (Nat.le_of_ble_eq_true rfl)) rfl rfl (Nat.le_of_ble_eq_true rfl) (Nat.le_of_ble_eq_true rfl) (Nat.le_of_ble_eq_true rfl) (Nat.le_of_ble_eq_true rfl) (c_Hx_moveAt hnx 0 s) (fun y1 hy1 hs => ?_)
  refine grd_e hs (fun hg2 hs => ?_)
  refine x_i2l dL_whole_5 hg2 ?_
  refine w_lstore_n (lv' := [(1, vl y1), (0, .ref 0)]) dL_whole_6 rfl (Nat.le_of_ble_eq_true rfl) rfl ?_
  refine x_iconst dL_whole_7 ?_
  refine w_istore_n (lv' := [(3, vi 0), (1, vl y1), (0, .ref 0)]) dL_whole_8 rfl (Nat.le_of_ble_eq_true rfl) rfl ?_
  refine w_lv (lv' := [(0, .ref 0), (1, vl y1), (3, vi 0)]) [2, 1, 0] rfl ?_
  exact q_La_whole_l9 hnx y1 0 s hs
set_option maxRecDepth 100000 in
theorem q_La_groups_b195 {C : Cx} {nx : Nat} (hnx : 80 ≤ nx) {Qr : Option Value → Hp → Prop} {Qx : String → Hp → Prop}  (x1 : Int) (x2 : Int) (x3 : Int) (x4 : Int) (x5 : Int) (x6 : Int) (x7 : Int) (x8 : Int) (x9 : Int) (x10 : Int) (x11 : Int) (s : Sg) {o : ((Int × Sg) ⊕ (Sg))} (hs : La_groups_b195 x1 x2 x3 x4 x5 x6 x7 x8 x9 x10 x11 s = some o) (hb : ∀ σ : Int × Sg, o = .inl σ → ww C M_L_groups 11 0 0 nx (Qr) (Qx) nx 0 0 148 [(0, .ref 0), (1, vi x1), (2, vi x2), (3, vi x3), (4, vi x4), (5, vi x5), (6, vi x6), (7, vi x7), (8, vi x8), (9, vi x9), (10, vi x10), (11, vi σ.1)] [] (hp nx σ.2)) (he0 : ∀ ρ : Sg, o = .inr ρ → ww C M_L_groups 11 0 0 nx (Qr) (Qx) nx 0 0 201 [(0, .ref 0), (1, vi x1), (2, vi x2), (3, vi x3), (4, vi x4), (5, vi x5), (6, vi x6), (7, vi x7), (8, vi x8), (9, vi x9), (10, vi x10)] [] (hp nx ρ)) : ww C M_L_groups 11 0 0 nx (Qr) (Qx) nx 0 0 195 [(0, .ref 0), (1, vi x1), (2, vi x2), (3, vi x3), (4, vi x4), (5, vi x5), (6, vi x6), (7, vi x7), (8, vi x8), (9, vi x9), (10, vi x10), (11, vi x11)] [] (hp nx s) := by
  unfold La_groups_b195 at hs
  refine x_iinc (lv' := [(11, vi (x11 + 1)), (0, .ref 0), (1, vi x1), (2, vi x2), (3, vi x3), (4, vi x4), (5, vi x5), (6, vi x6), (7, vi x7), (8, vi x8), (9, vi x9), (10, vi x10)]) 11 dL_groups_195 rfl (Nat.le_of_ble_eq_true rfl) rfl ?_
  refine w_goto dL_groups_198 rfl ?_
  refine w_lv (lv' := [(0, .ref 0), (1, vi x1), (2, vi x2), (3, vi x3), (4, vi x4), (5, vi x5), (6, vi x6), (7, vi x7), (8, vi x8), (9, vi x9), (10, vi x10), (11, vi (x11 + 1))]) [1, 2, 3, 4, 5, 6, 7, 8, 9, 10, 11, 0] rfl ?_
  cases hs
  exact hb _ rfl
set_option maxRecDepth 100000 in
theorem q_La_groups_t148 {C : Cx} {nx : Nat} (hnx : 80 ≤ nx) {Qr : Option Value → Hp → Prop} {Qx : String → Hp → Prop}  (x1 : Int) (x2 : Int) (x3 : Int) (x4 : Int) (x5 : Int) (x6 : Int) (x7 : Int) (x8 : Int) (x9 : Int) (x10 : Int) (x11 : Int) (s : Sg) {o : ((Int × Sg) ⊕ (Sg))} (hs : La_groups_t148 x1 x2 x3 x4 x5 x6 x7 x8 x9 x10 x11 s = some o) (hb : ∀ σ : Int × Sg, o = .inl σ → ww C M_L_groups 11 0 0 nx (Qr) (Qx) nx 0 0 148 [(0, .ref 0), (1, vi x1), (2, vi x2), (3, vi x3), (4, vi x4), (5, vi x5), (6, vi x6), (7, vi x7), (8, vi x8), (9, vi x9), (10, vi x10), (11, vi σ.1)] [] (hp nx σ.2)) (he0 : ∀ ρ : Sg, o = .inr ρ → ww C M_L_groups 11 0 0 nx (Qr) (Qx) nx 0 0 201 [(0, .ref 0), (1, vi x1), (2, vi x2), (3, vi x3), (4, vi x4), (5, vi x5), (6, vi x6), (7, vi x7), (8, vi x8), (9, vi x9), (10, vi x10)] [] (hp nx ρ)) : ww C M_L_groups 11 0 0 nx (Qr) (Qx) nx 0 0 148 [(0, .ref 0), (1, vi x1), (2, vi x2), (3, vi x3), (4, vi x4), (5, vi x5), (6, vi x6), (7, vi x7), (8, vi x8), (9, vi x9), (10, vi x10), (11, vi x11)] [] (hp nx s) := by
  unfold La_groups_t148 at hs
  refine w_aload_n 0 dL_groups_148 rfl rfl ?_
  refine w_iload 9 dL_groups_149 rfl ?_
  refine w_iload 11 dL_groups_151 rfl ?_
  refine x_V_Tr M_X11_neighbour [vi x9, vi x11] [] hs rfl dL_groups_153 (lkL_115 _ rfl) (lt_of hnx (Nat.le_of_ble_eq_true rfl)) rfl rfl (Nat.le_of_ble_eq_true rfl) (Nat.le_of_ble_eq_true rfl) (Nat.le_of_ble_eq_true rfl) (Nat.le_of_ble_eq_true rfl) (c_Hx_neighbour hnx x9 x11 s) (fun y25 s26 hy25 hs => ?_)
  refine x_iflt hs dL_groups_156 rfl (fun hs => ?_) (fun hs => ?_)
  · refine w_lv (lv' := [(0, .ref 0), (1, vi x1), (2, vi x2), (3, vi x3), (4, vi x4), (5, vi x5), (6, vi x6), (7, vi x7), (8, vi x8), (9, vi x9), (10, vi x10)]) [0, 1, 2, 3, 4, 5, 6, 7, 8, 9, 10] rfl ?_
    cases hs
    exact he0 _ rfl
  · refine w_aload_n 0 dL_groups_159 rfl rfl ?_
    refine w_aload_n 0 dL_groups_160 rfl rfl ?_
    refine w_iload 9 dL_groups_161 rfl ?_
    refine w_iload 11 dL_groups_163 rfl ?_
    refine x_V_Tr M_X11_neighbour [vi x9, vi x11] [.ref 0] hs rfl dL_groups_165 (lkL_115 _ rfl) (lt_of hnx (Nat.le_of_ble_eq_true rfl)) rfl rfl (Nat.le_of_ble_eq_true rfl) (Nat.le_of_ble_eq_true rfl) (Nat.le_of_ble_eq_true rfl) (Nat.le_of_ble_eq_true rfl) (c_Hx_neighbour hnx x9 x11 s26) (fun y27 s28 hy27 hs => ?_)
    refine x_V_Tr M_X11_cell [vi y27] [] hs rfl dL_groups_168 (lkL_107 _ rfl) (lt_of hnx (Nat.le_of_ble_eq_true rfl)) rfl rfl (Nat.le_of_ble_eq_true rfl) (Nat.le_of_ble_eq_true rfl) (Nat.le_of_ble_eq_true rfl) (Nat.le_of_ble_eq_true rfl) (c_Hx_cell hnx y27 s28) (fun y29 s30 hy29 hs => ?_)
    refine w_iload_n 1 dL_groups_171 rfl rfl ?_
    refine x_icmpne hs dL_groups_172 rfl (fun hs => ?_) (fun hs => ?_)
    · exact q_La_groups_b195 hnx x1 x2 x3 x4 x5 x6 x7 x8 x9 x10 x11 s30 hs hb he0
    · refine w_aload_n 0 dL_groups_175 rfl rfl ?_
      refine w_aload_n 0 dL_groups_176 rfl rfl ?_
      refine w_iload 9 dL_groups_177 rfl ?_
      refine w_iload 11 dL_groups_179 rfl ?_
      refine x_V_Tr M_X11_neighbour [vi x9, vi x11] [.ref 0] hs rfl dL_groups_181 (lkL_115 _ rfl) (lt_of hnx (Nat.le_of_ble_eq_true rfl)) rfl rfl (Nat.le_of_ble_eq_true rfl) (Nat.le_of_ble_eq_true rfl) (Nat.le_of_ble_eq_true rfl) (Nat.le_of_ble_eq_true rfl) (c_Hx_neighbour hnx x9 x11 s30) (fun y31 s32 hy31 hs => ?_)
      refine x_iconst dL_groups_184 ?_
      refine x_V_Tr M_X11_group [vi y31, vi 0] [] hs rfl dL_groups_185 (lkL_109 _ rfl) (lt_of hnx (Nat.le_of_ble_eq_true rfl)) rfl rfl (Nat.le_of_ble_eq_true rfl) (Nat.le_of_ble_eq_true rfl) (Nat.le_of_ble_eq_true rfl) (Nat.le_of_ble_eq_true rfl) (c_Hx_group hnx y31 0 s32) (fun y33 s34 hy33 hs => ?_)
      refine w_iload 10 dL_groups_188 rfl ?_
      refine x_icmpeq hs dL_groups_190 rfl (fun hs => ?_) (fun hs => ?_)
      · exact q_La_groups_b195 hnx x1 x2 x3 x4 x5 x6 x7 x8 x9 x10 x11 s34 hs hb he0
      · cases hs
set_option maxRecDepth 100000 in
theorem q_La_groups_b304 {C : Cx} {nx : Nat} (hnx : 80 ≤ nx) {Qr : Option Value → Hp → Prop} {Qx : String → Hp → Prop}  (x1 : Int) (x2 : Int) (x3 : Int) (x4 : Int) (x5 : Int) (x6 : Int) (x7 : Int) (x8 : Int) (x9 : Int) (s : Sg) {o : ((Int × Int × Int × Int × Int × Int × Int × Int × Sg) ⊕ (Int × Int × Int × Int × Int × Int × Int × Sg))} (hs : La_groups_b304 x1 x2 x3 x4 x5 x6 x7 x8 x9 s = some o) (hb : ∀ σ : Int × Int × Int × Int × Int × Int × Int × Int × Sg, o = .inl σ → ww C M_L_groups 11 0 0 nx (Qr) (Qx) nx 0 0 22 [(0, .ref 0), (1, vi x1), (2, vi σ.1), (3, vi σ.2.1), (4, vi σ.2.2.1), (5, vi σ.2.2.2.1), (6, vi σ.2.2.2.2.1), (7, vi σ.2.2.2.2.2.1), (8, vi σ.2.2.2.2.2.2.1), (9, vi σ.2.2.2.2.2.2.2.1)] [] (hp nx σ.2.2.2.2.2.2.2.2)) (he0 : ∀ ρ : Int × Int × Int × Int × Int × Int × Int × Sg, o = .inr ρ → ww C M_L_groups 11 0 0 nx (Qr) (Qx) nx 0 0 310 [(0, .ref 0), (1, vi x1), (2, vi ρ.1), (3, vi ρ.2.1), (4, vi ρ.2.2.1), (5, vi ρ.2.2.2.1), (6, vi ρ.2.2.2.2.1), (7, vi ρ.2.2.2.2.2.1), (8, vi ρ.2.2.2.2.2.2.1)] [] (hp nx ρ.2.2.2.2.2.2.2)) : ww C M_L_groups 11 0 0 nx (Qr) (Qx) nx 0 0 304 [(0, .ref 0), (1, vi x1), (2, vi x2), (3, vi x3), (4, vi x4), (5, vi x5), (6, vi x6), (7, vi x7), (8, vi x8), (9, vi x9)] [] (hp nx s) := by
  unfold La_groups_b304 at hs
  refine x_iinc (lv' := [(9, vi (x9 + 1)), (0, .ref 0), (1, vi x1), (2, vi x2), (3, vi x3), (4, vi x4), (5, vi x5), (6, vi x6), (7, vi x7), (8, vi x8)]) 9 dL_groups_304 rfl (Nat.le_of_ble_eq_true rfl) rfl ?_
  refine w_goto dL_groups_307 rfl ?_
  refine w_lv (lv' := [(0, .ref 0), (1, vi x1), (2, vi x2), (3, vi x3), (4, vi x4), (5, vi x5), (6, vi x6), (7, vi x7), (8, vi x8), (9, vi (x9 + 1))]) [1, 2, 3, 4, 5, 6, 7, 8, 9, 0] rfl ?_
  cases hs
  exact hb _ rfl
set_option maxRecDepth 100000 in
theorem q_La_groups_b260 {C : Cx} {nx : Nat} (hnx : 80 ≤ nx) {Qr : Option Value → Hp → Prop} {Qx : String → Hp → Prop}  (x1 : Int) (x2 : Int) (x4 : Int) (x5 : Int) (x6 : Int) (x7 : Int) (x8 : Int) (x9 : Int) (t0 : Int) (t1 : Int) (s : Sg) {o : ((Int × Int × Int × Int × Int × Int × Int × Int × Sg) ⊕ (Int × Int × Int × Int × Int × Int × Int × Sg))} (hs : La_groups_b260 x1 x2 x4 x5 x6 x7 x8 x9 t0 t1 s = some o) (hb : ∀ σ : Int × Int × Int × Int × Int × Int × Int × Int × Sg, o = .inl σ → ww C M_L_groups 11 0 0 nx (Qr) (Qx) nx 0 0 22 [(0, .ref 0), (1, vi x1), (2, vi σ.1), (3, vi σ.2.1), (4, vi σ.2.2.1), (5, vi σ.2.2.2.1), (6, vi σ.2.2.2.2.1), (7, vi σ.2.2.2.2.2.1), (8, vi σ.2.2.2.2.2.2.1), (9, vi σ.2.2.2.2.2.2.2.1)] [] (hp nx σ.2.2.2.2.2.2.2.2)) (he0 : ∀ ρ : Int × Int × Int × Int × Int × Int × Int × Sg, o = .inr ρ → ww C M_L_groups 11 0 0 nx (Qr) (Qx) nx 0 0 310 [(0, .ref 0), (1, vi x1), (2, vi ρ.1), (3, vi ρ.2.1), (4, vi ρ.2.2.1), (5, vi ρ.2.2.2.1), (6, vi ρ.2.2.2.2.1), (7, vi ρ.2.2.2.2.2.1), (8, vi ρ.2.2.2.2.2.2.1)] [] (hp nx ρ.2.2.2.2.2.2.2)) : ww C M_L_groups 11 0 0 nx (Qr) (Qx) nx 0 0 260 [(0, .ref 0), (1, vi x1), (2, vi x2), (4, vi x4), (5, vi x5), (6, vi x6), (7, vi x7), (8, vi x8), (9, vi x9)] [vi t1, vi t0] (hp nx s) := by
  unfold La_groups_b260 at hs
  refine x_iadd dL_groups_260 ?_
  refine x_istore_n (fun x3_36 => [(3, vi x3_36), (0, .ref 0), (1, vi x1), (2, vi x2), (4, vi x4), (5, vi x5), (6, vi x6), (7, vi x7), (8, vi x8), (9, vi x9)]) hs dL_groups_261 rfl (Nat.le_of_ble_eq_true rfl) (fun _ => rfl) (fun x3_36 hs => ?_)
  refine w_aload_n 1 dL_groups_262 rfl rfl ?_
  refine w_iload 9 dL_groups_263 rfl ?_
  refine x_iconst dL_groups_265 ?_
  refine x_V_Tr M_X11_chain [vi x9, vi 0] [] hs rfl dL_groups_266 (lkL_112 _ rfl) (lt_of hnx (Nat.le_of_ble_eq_true rfl)) rfl rfl (Nat.le_of_ble_eq_true rfl) (Nat.le_of_ble_eq_true rfl) (Nat.le_of_ble_eq_true rfl) (Nat.le_of_ble_eq_true rfl) (c_Hx_chain hnx x9 0 s) (fun y37 s38 hy37 hs => ?_)
  refine w_iload 9 dL_groups_269 rfl ?_
  refine x_icmpeq hs dL_groups_271 rfl (fun hs => ?_) (fun hs => ?_)
  · refine x_iinc (lv' := [(5, vi (x5 + 1)), (3, vi x3_36), (0, .ref 0), (1, vi x1), (2, vi x2), (4, vi x4), (6, vi x6), (7, vi x7), (8, vi x8), (9, vi x9)]) 5 dL_groups_277 rfl (Nat.le_of_ble_eq_true rfl) rfl ?_
    refine w_iload 5 dL_groups_280 rfl ?_
    refine w_aload_n 2 dL_groups_282 rfl rfl ?_
    refine w_iload 9 dL_groups_283 rfl ?_
    refine x_iconst dL_groups_285 ?_
    refine x_V_Tr M_X11_chain [vi x9, vi 1] [vi x4] hs rfl dL_groups_286 (lkL_112 _ rfl) (lt_of hnx (Nat.le_of_ble_eq_true rfl)) rfl rfl (Nat.le_of_ble_eq_true rfl) (Nat.le_of_ble_eq_true rfl) (Nat.le_of_ble_eq_true rfl) (Nat.le_of_ble_eq_true rfl) (c_Hx_chain hnx x9 1 s38) (fun y39 s40 hy39 hs => ?_)
    refine x_iadd dL_groups_289 ?_
    refine x_istore (fun x4_41 => [(4, vi x4_41), (5, vi (x5 + 1)), (3, vi x3_36), (0, .ref 0), (1, vi x1), (2, vi x2), (6, vi x6), (7, vi x7), (8, vi x8), (9, vi x9)]) hs dL_groups_290 (Nat.le_of_ble_eq_true rfl) (fun _ => rfl) (fun x4_41 hs => ?_)
    refine w_iload 6 dL_groups_292 rfl ?_
    refine w_aload_n 3 dL_groups_294 rfl rfl ?_
    refine w_iload 9 dL_groups_295 rfl ?_
    refine x_iconst dL_groups_297 ?_
    refine x_V_Tr M_X11_chain [vi x9, vi 2] [vi x6] hs rfl dL_groups_298 (lkL_112 _ rfl) (lt_of hnx (Nat.le_of_ble_eq_true rfl)) rfl rfl (Nat.le_of_ble_eq_true rfl) (Nat.le_of_ble_eq_true rfl) (Nat.le_of_ble_eq_true rfl) (Nat.le_of_ble_eq_true rfl) (c_Hx_chain hnx x9 2 s40) (fun y42 s43 hy42 hs => ?_)
    refine x_iadd dL_groups_301 ?_
    refine x_istore (fun x6_44 => [(6, vi x6_44), (4, vi x4_41), (5, vi (x5 + 1)), (3, vi x3_36), (0, .ref 0), (1, vi x1), (2, vi x2), (7, vi x7), (8, vi x8), (9, vi x9)]) hs dL_groups_302 (Nat.le_of_ble_eq_true rfl) (fun _ => rfl) (fun x6_44 hs => ?_)
    refine w_lv (lv' := [(0, .ref 0), (1, vi x1), (2, vi x2), (3, vi x3_36), (4, vi x4_41), (5, vi (x5 + 1)), (6, vi x6_44), (7, vi x7), (8, vi x8), (9, vi x9)]) [4, 5, 6, 3, 1, 2, 0, 7, 8, 9] rfl ?_
    exact q_La_groups_b304 hnx x1 x2 x3_36 x4_41 (x5 + 1) x6_44 x7 x8 x9 s43 hs hb he0
  · refine w_goto dL_groups_274 rfl ?_
    refine w_lv (lv' := [(0, .ref 0), (1, vi x1), (2, vi x2), (3, vi x3_36), (4, vi x4), (5, vi x5), (6, vi x6), (7, vi x7), (8, vi x8), (9, vi x9)]) [1, 2, 3, 0, 4, 5, 6, 7, 8, 9] rfl ?_
    exact q_La_groups_b304 hnx x1 x2 x3_36 x4 x5 x6 x7 x8 x9 s38 hs hb he0
set_option maxRecDepth 100000 in
theorem q_La_groups_b245 {C : Cx} {nx : Nat} (hnx : 80 ≤ nx) {Qr : Option Value → Hp → Prop} {Qx : String → Hp → Prop}  (x1 : Int) (x2 : Int) (x3 : Int) (x4 : Int) (x5 : Int) (x6 : Int) (x7 : Int) (x9 : Int) (x10 : Int) (t0 : Int) (s : Sg) {o : ((Int × Int × Int × Int × Int × Int × Int × Int × Sg) ⊕ (Int × Int × Int × Int × Int × Int × Int × Sg))} (hs : La_groups_b245 x1 x2 x3 x4 x5 x6 x7 x9 x10 t0 s = some o) (hb : ∀ σ : Int × Int × Int × Int × Int × Int × Int × Int × Sg, o = .inl σ → ww C M_L_groups 11 0 0 nx (Qr) (Qx) nx 0 0 22 [(0, .ref 0), (1, vi x1), (2, vi σ.1), (3, vi σ.2.1), (4, vi σ.2.2.1), (5, vi σ.2.2.2.1), (6, vi σ.2.2.2.2.1), (7, vi σ.2.2.2.2.2.1), (8, vi σ.2.2.2.2.2.2.1), (9, vi σ.2.2.2.2.2.2.2.1)] [] (hp nx σ.2.2.2.2.2.2.2.2)) (he0 : ∀ ρ : Int × Int × Int × Int × Int × Int × Int × Sg, o = .inr ρ → ww C M_L_groups 11 0 0 nx (Qr) (Qx) nx 0 0 310 [(0, .ref 0), (1, vi x1), (2, vi ρ.1), (3, vi ρ.2.1), (4, vi ρ.2.2.1), (5, vi ρ.2.2.2.1), (6, vi ρ.2.2.2.2.1), (7, vi ρ.2.2.2.2.2.1), (8, vi ρ.2.2.2.2.2.2.1)] [] (hp nx ρ.2.2.2.2.2.2.2)) : ww C M_L_groups 11 0 0 nx (Qr) (Qx) nx 0 0 245 [(0, .ref 0), (1, vi x1), (2, vi x2), (3, vi x3), (4, vi x4), (5, vi x5), (6, vi x6), (7, vi x7), (9, vi x9), (10, vi x10)] [vi t0] (hp nx s) := by
  unfold La_groups_b245 at hs
  refine w_istore (lv' := [(8, vi t0), (0, .ref 0), (1, vi x1), (2, vi x2), (3, vi x3), (4, vi x4), (5, vi x5), (6, vi x6), (7, vi x7), (9, vi x9), (10, vi x10)]) dL_groups_245 (Nat.le_of_ble_eq_true rfl) rfl ?_
  refine w_iload_n 4 dL_groups_247 rfl rfl ?_
  refine w_iload 10 dL_groups_248 rfl ?_
  refine w_iload 9 dL_groups_250 rfl ?_
  refine x_icmpne hs dL_groups_252 rfl (fun hs => ?_) (fun hs => ?_)
  · refine x_iconst dL_groups_259 ?_
    refine w_lv (lv' := [(0, .ref 0), (1, vi x1), (2, vi x2), (4, vi x4), (5, vi x5), (6, vi x6), (7, vi x7), (8, vi t0), (9, vi x9)]) [1, 2, 3, 5, 6, 7, 8, 0, 9] rfl ?_
    exact q_La_groups_b260 hnx x1 x2 x4 x5 x6 x7 t0 x9 x3 0 s hs hb he0
  · refine x_iconst dL_groups_255 ?_
    refine w_goto dL_groups_256 rfl ?_
    refine w_lv (lv' := [(0, .ref 0), (1, vi x1), (2, vi x2), (4, vi x4), (5, vi x5), (6, vi x6), (7, vi x7), (8, vi t0), (9, vi x9)]) [1, 2, 3, 5, 6, 7, 8, 0, 9] rfl ?_
    exact q_La_groups_b260 hnx x1 x2 x4 x5 x6 x7 t0 x9 x3 1 s hs hb he0
set_option maxRecDepth 100000 in
theorem q_La_groups_b240 {C : Cx} {nx : Nat} (hnx : 80 ≤ nx) {Qr : Option Value → Hp → Prop} {Qx : String → Hp → Prop}  (x1 : Int) (x2 : Int) (x3 : Int) (x4 : Int) (x5 : Int) (x6 : Int) (x7 : Int) (x9 : Int) (x10 : Int) (s : Sg) {o : ((Int × Int × Int × Int × Int × Int × Int × Int × Sg) ⊕ (Int × Int × Int × Int × Int × Int × Int × Sg))} (hs : La_groups_b240 x1 x2 x3 x4 x5 x6 x7 x9 x10 s = some o) (hb : ∀ σ : Int × Int × Int × Int × Int × Int × Int × Int × Sg, o = .inl σ → ww C M_L_groups 11 0 0 nx (Qr) (Qx) nx 0 0 22 [(0, .ref 0), (1, vi x1), (2, vi σ.1), (3, vi σ.2.1), (4, vi σ.2.2.1), (5, vi σ.2.2.2.1), (6, vi σ.2.2.2.2.1), (7, vi σ.2.2.2.2.2.1), (8, vi σ.2.2.2.2.2.2.1), (9, vi σ.2.2.2.2.2.2.2.1)] [] (hp nx σ.2.2.2.2.2.2.2.2)) (he0 : ∀ ρ : Int × Int × Int × Int × Int × Int × Int × Sg, o = .inr ρ → ww C M_L_groups 11 0 0 nx (Qr) (Qx) nx 0 0 310 [(0, .ref 0), (1, vi x1), (2, vi ρ.1), (3, vi ρ.2.1), (4, vi ρ.2.2.1), (5, vi ρ.2.2.2.1), (6, vi ρ.2.2.2.2.1), (7, vi ρ.2.2.2.2.2.1), (8, vi ρ.2.2.2.2.2.2.1)] [] (hp nx ρ.2.2.2.2.2.2.2)) : ww C M_L_groups 11 0 0 nx (Qr) (Qx) nx 0 0 240 [(0, .ref 0), (1, vi x1), (2, vi x2), (3, vi x3), (4, vi x4), (5, vi x5), (6, vi x6), (7, vi x7), (9, vi x9), (10, vi x10)] [] (hp nx s) := by
  unfold La_groups_b240 at hs
  refine x_iconst dL_groups_240 ?_
  refine w_goto dL_groups_241 rfl ?_
  exact q_La_groups_b245 hnx x1 x2 x3 x4 x5 x6 x7 x9 x10 1 s hs hb he0
set_option maxRecDepth 100000 in
theorem q_La_groups_b222 {C : Cx} {nx : Nat} (hnx : 80 ≤ nx) {Qr : Option Value → Hp → Prop} {Qx : String → Hp → Prop}  (x1 : Int) (x2 : Int) (x3 : Int) (x4 : Int) (x5 : Int) (x6 : Int) (x8 : Int) (x9 : Int) (x10 : Int) (t0 : Int) (s : Sg) {o : ((Int × Int × Int × Int × Int × Int × Int × Int × Sg) ⊕ (Int × Int × Int × Int × Int × Int × Int × Sg))} (hs : La_groups_b222 x1 x2 x3 x4 x5 x6 x8 x9 x10 t0 s = some o) (hb : ∀ σ : Int × Int × Int × Int × Int × Int × Int × Int × Sg, o = .inl σ → ww C M_L_groups 11 0 0 nx (Qr) (Qx) nx 0 0 22 [(0, .ref 0), (1, vi x1), (2, vi σ.1), (3, vi σ.2.1), (4, vi σ.2.2.1), (5, vi σ.2.2.2.1), (6, vi σ.2.2.2.2.1), (7, vi σ.2.2.2.2.2.1), (8, vi σ.2.2.2.2.2.2.1), (9, vi σ.2.2.2.2.2.2.2.1)] [] (hp nx σ.2.2.2.2.2.2.2.2)) (he0 : ∀ ρ : Int × Int × Int × Int × Int × Int × Int × Sg, o = .inr ρ → ww C M_L_groups 11 0 0 nx (Qr) (Qx) nx 0 0 310 [(0, .ref 0), (1, vi x1), (2, vi ρ.1), (3, vi ρ.2.1), (4, vi ρ.2.2.1), (5, vi ρ.2.2.2.1), (6, vi ρ.2.2.2.2.1), (7, vi ρ.2.2.2.2.2.1), (8, vi ρ.2.2.2.2.2.2.1)] [] (hp nx ρ.2.2.2.2.2.2.2)) : ww C M_L_groups 11 0 0 nx (Qr) (Qx) nx 0 0 222 [(0, .ref 0), (1, vi x1), (2, vi x2), (3, vi x3), (4, vi x4), (5, vi x5), (6, vi x6), (8, vi x8), (9, vi x9), (10, vi x10)] [vi t0] (hp nx s) := by
  unfold La_groups_b222 at hs
  refine w_istore (lv' := [(7, vi t0), (0, .ref 0), (1, vi x1), (2, vi x2), (3, vi x3), (4, vi x4), (5, vi x5), (6, vi x6), (8, vi x8), (9, vi x9), (10, vi x10)]) dL_groups_222 (Nat.le_of_ble_eq_true rfl) rfl ?_
  refine w_iload 8 dL_groups_224 rfl ?_
  refine x_ifne hs dL_groups_226 rfl (fun hs => ?_) (fun hs => ?_)
  · refine w_lv (lv' := [(0, .ref 0), (1, vi x1), (2, vi x2), (3, vi x3), (4, vi x4), (5, vi x5), (6, vi x6), (7, vi t0), (9, vi x9), (10, vi x10)]) [1, 2, 3, 4, 5, 6, 7, 0, 9, 10] rfl ?_
    exact q_La_groups_b240 hnx x1 x2 x3 x4 x5 x6 t0 x9 x10 s hs hb he0
  · refine w_aload_n 1 dL_groups_229 rfl rfl ?_
    refine w_iload 9 dL_groups_230 rfl ?_
    refine x_iconst dL_groups_232 ?_
    refine x_V_Tr M_X11_chain [vi x9, vi 3] [] hs rfl dL_groups_233 (lkL_112 _ rfl) (lt_of hnx (Nat.le_of_ble_eq_true rfl)) rfl rfl (Nat.le_of_ble_eq_true rfl) (Nat.le_of_ble_eq_true rfl) (Nat.le_of_ble_eq_true rfl) (Nat.le_of_ble_eq_true rfl) (c_Hx_chain hnx x9 3 s) (fun y45 s46 hy45 hs => ?_)
    refine x_iconst dL_groups_236 ?_
    refine x_icmpne hs dL_groups_237 rfl (fun hs => ?_) (fun hs => ?_)
    · refine x_iconst dL_groups_244 ?_
      refine w_lv (lv' := [(0, .ref 0), (1, vi x1), (2, vi x2), (3, vi x3), (4, vi x4), (5, vi x5), (6, vi x6), (7, vi t0), (9, vi x9), (10, vi x10)]) [1, 2, 3, 4, 5, 6, 7, 0, 9, 10] rfl ?_
      exact q_La_groups_b245 hnx x1 x2 x3 x4 x5 x6 t0 x9 x10 0 s46 hs hb he0
    · refine w_lv (lv' := [(0, .ref 0), (1, vi x1), (2, vi x2), (3, vi x3), (4, vi x4), (5, vi x5), (6, vi x6), (7, vi t0), (9, vi x9), (10, vi x10)]) [1, 2, 3, 4, 5, 6, 7, 0, 9, 10] rfl ?_
      exact q_La_groups_b240 hnx x1 x2 x3 x4 x5 x6 t0 x9 x10 s46 hs hb he0
set_option maxRecDepth 100000 in
theorem q_La_groups_b217 {C : Cx} {nx : Nat} (hnx : 80 ≤ nx) {Qr : Option Value → Hp → Prop} {Qx : String → Hp → Prop}  (x1 : Int) (x2 : Int) (x3 : Int) (x4 : Int) (x5 : Int) (x6 : Int) (x8 : Int) (x9 : Int) (x10 : Int) (s : Sg) {o : ((Int × Int × Int × Int × Int × Int × Int × Int × Sg) ⊕ (Int × Int × Int × Int × Int × Int × Int × Sg))} (hs : La_groups_b217 x1 x2 x3 x4 x5 x6 x8 x9 x10 s = some o) (hb : ∀ σ : Int × Int × Int × Int × Int × Int × Int × Int × Sg, o = .inl σ → ww C M_L_groups 11 0 0 nx (Qr) (Qx) nx 0 0 22 [(0, .ref 0), (1, vi x1), (2, vi σ.1), (3, vi σ.2.1), (4, vi σ.2.2.1), (5, vi σ.2.2.2.1), (6, vi σ.2.2.2.2.1), (7, vi σ.2.2.2.2.2.1), (8, vi σ.2.2.2.2.2.2.1), (9, vi σ.2.2.2.2.2.2.2.1)] [] (hp nx σ.2.2.2.2.2.2.2.2)) (he0 : ∀ ρ : Int × Int × Int × Int × Int × Int × Int × Sg, o = .inr ρ → ww C M_L_groups 11 0 0 nx (Qr) (Qx) nx 0 0 310 [(0, .ref 0), (1, vi x1), (2, vi ρ.1), (3, vi ρ.2.1), (4, vi ρ.2.2.1), (5, vi ρ.2.2.2.1), (6, vi ρ.2.2.2.2.1), (7, vi ρ.2.2.2.2.2.1), (8, vi ρ.2.2.2.2.2.2.1)] [] (hp nx ρ.2.2.2.2.2.2.2)) : ww C M_L_groups 11 0 0 nx (Qr) (Qx) nx 0 0 217 [(0, .ref 0), (1, vi x1), (2, vi x2), (3, vi x3), (4, vi x4), (5, vi x5), (6, vi x6), (8, vi x8), (9, vi x9), (10, vi x10)] [] (hp nx s) := by
  unfold La_groups_b217 at hs
  refine x_iconst dL_groups_217 ?_
  refine w_goto dL_groups_218 rfl ?_
  exact q_La_groups_b222 hnx x1 x2 x3 x4 x5 x6 x8 x9 x10 1 s hs hb he0
set_option maxRecDepth 100000 in
theorem q_La_groups_l148 {C : Cx} {nx : Nat} (hnx : 80 ≤ nx) {Qr : Option Value → Hp → Prop} {Qx : String → Hp → Prop}  (x1 : Int) (x2 : Int) (x3 : Int) (x4 : Int) (x5 : Int) (x6 : Int) (x7 : Int) (x8 : Int) (x9 : Int) (x10 : Int) (x11 : Int) (s : Sg) {o : ((Int × Int × Int × Int × Int × Int × Int × Int × Sg) ⊕ (Int × Int × Int × Int × Int × Int × Int × Sg))} (hs : La_groups_l148 x1 x2 x3 x4 x5 x6 x7 x8 x9 x10 x11 s = some o) (hb : ∀ σ : Int × Int × Int × Int × Int × Int × Int × Int × Sg, o = .inl σ → ww C M_L_groups 11 0 0 nx (Qr) (Qx) nx 0 0 22 [(0, .ref 0), (1, vi x1), (2, vi σ.1), (3, vi σ.2.1), (4, vi σ.2.2.1), (5, vi σ.2.2.2.1), (6, vi σ.2.2.2.2.1), (7, vi σ.2.2.2.2.2.1), (8, vi σ.2.2.2.2.2.2.1), (9, vi σ.2.2.2.2.2.2.2.1)] [] (hp nx σ.2.2.2.2.2.2.2.2)) (he0 : ∀ ρ : Int × Int × Int × Int × Int × Int × Int × Sg, o = .inr ρ → ww C M_L_groups 11 0 0 nx (Qr) (Qx) nx 0 0 310 [(0, .ref 0), (1, vi x1), (2, vi ρ.1), (3, vi ρ.2.1), (4, vi ρ.2.2.1), (5, vi ρ.2.2.2.1), (6, vi ρ.2.2.2.2.1), (7, vi ρ.2.2.2.2.2.1), (8, vi ρ.2.2.2.2.2.2.1)] [] (hp nx ρ.2.2.2.2.2.2.2)) : ww C M_L_groups 11 0 0 nx (Qr) (Qx) nx 0 0 148 [(0, .ref 0), (1, vi x1), (2, vi x2), (3, vi x3), (4, vi x4), (5, vi x5), (6, vi x6), (7, vi x7), (8, vi x8), (9, vi x9), (10, vi x10), (11, vi x11)] [] (hp nx s) := by
  unfold La_groups_l148 at hs
  refine bnd_e hs (fun s_35 hw hs => ?_)
  have hE : ww C M_L_groups 11 0 0 nx (Qr) (Qx) nx 0 0 201 [(0, .ref 0), (1, vi x1), (2, vi x2), (3, vi x3), (4, vi x4), (5, vi x5), (6, vi x6), (7, vi x7), (8, vi x8), (9, vi x9), (10, vi x10)] [] (hp nx s_35) := by
    refine w_iload 7 dL_groups_201 rfl ?_
    refine x_ifne hs dL_groups_203 rfl (fun hs => ?_) (fun hs => ?_)
    · refine w_lv (lv' := [(0, .ref 0), (1, vi x1), (2, vi x2), (3, vi x3), (4, vi x4), (5, vi x5), (6, vi x6), (8, vi x8), (9, vi x9), (10, vi x10)]) [0, 1, 2, 3, 4, 5, 6, 8, 9, 10] rfl ?_
      exact q_La_groups_b217 hnx x1 x2 x3 x4 x5 x6 x8 x9 x10 s_35 hs hb he0
    · refine w_aload_n 0 dL_groups_206 rfl rfl ?_
      refine w_iload 9 dL_groups_207 rfl ?_
      refine x_iconst dL_groups_209 ?_
      refine x_V_Tr M_X11_group [vi x9, vi 3] [] hs rfl dL_groups_210 (lkL_109 _ rfl) (lt_of hnx (Nat.le_of_ble_eq_true rfl)) rfl rfl (Nat.le_of_ble_eq_true rfl) (Nat.le_of_ble_eq_true rfl) (Nat.le_of_ble_eq_true rfl) (Nat.le_of_ble_eq_true rfl) (c_Hx_group hnx x9 3 s_35) (fun y47 s48 hy47 hs => ?_)
      refine x_iconst dL_groups_213 ?_
      refine x_icmpne hs dL_groups_214 rfl (fun hs => ?_) (fun hs => ?_)
      · refine x_iconst dL_groups_221 ?_
        refine w_lv (lv' := [(0, .ref 0), (1, vi x1), (2, vi x2), (3, vi x3), (4, vi x4), (5, vi x5), (6, vi x6), (8, vi x8), (9, vi x9), (10, vi x10)]) [0, 1, 2, 3, 4, 5, 6, 8, 9, 10] rfl ?_
        exact q_La_groups_b222 hnx x1 x2 x3 x4 x5 x6 x8 x9 x10 0 s48 hs hb he0
      · refine w_lv (lv' := [(0, .ref 0), (1, vi x1), (2, vi x2), (3, vi x3), (4, vi x4), (5, vi x5), (6, vi x6), (8, vi x8), (9, vi x9), (10, vi x10)]) [0, 1, 2, 3, 4, 5, 6, 8, 9, 10] rfl ?_
        exact q_La_groups_b217 hnx x1 x2 x3 x4 x5 x6 x8 x9 x10 s48 hs hb he0
  refine whl_w (P := fun σ => ww C M_L_groups 11 0 0 nx (Qr) (Qx) nx 0 0 148 [(0, .ref 0), (1, vi x1), (2, vi x2), (3, vi x3), (4, vi x4), (5, vi x5), (6, vi x6), (7, vi x7), (8, vi x8), (9, vi x9), (10, vi x10), (11, vi σ.1)] [] (hp nx σ.2)) (E := fun ρ => ρ = s_35) hw rfl ?_
  intro σ o' hs' hb' he'
  exact q_La_groups_t148 hnx x1 x2 x3 x4 x5 x6 x7 x8 x9 x10 σ.1 σ.2 hs' hb' (fun ρ e => by cases he' _ e; exact hE)
set_option maxRecDepth 100000 in
theorem q_La_groups_t22 {C : Cx} {nx : Nat} (hnx : 80 ≤ nx) {Qr : Option Value → Hp → Prop} {Qx : String → Hp → Prop}  (x1 : Int) (x2 : Int) (x3 : Int) (x4 : Int) (x5 : Int) (x6 : Int) (x7 : Int) (x8 : Int) (x9 : Int) (s : Sg) {o : ((Int × Int × Int × Int × Int × Int × Int × Int × Sg) ⊕ (Int × Int × Int × Int × Int × Int × Int × Sg))} (hs : La_groups_t22 x1 x2 x3 x4 x5 x6 x7 x8 x9 s = some o) (hb : ∀ σ : Int × Int × Int × Int × Int × Int × Int × Int × Sg, o = .inl σ → ww C M_L_groups 11 0 0 nx (Qr) (Qx) nx 0 0 22 [(0, .ref 0), (1, vi x1), (2, vi σ.1), (3, vi σ.2.1), (4, vi σ.2.2.1), (5, vi σ.2.2.2.1), (6, vi σ.2.2.2.2.1), (7, vi σ.2.2.2.2.2.1), (8, vi σ.2.2.2.2.2.2.1), (9, vi σ.2.2.2.2.2.2.2.1)] [] (hp nx σ.2.2.2.2.2.2.2.2)) (he0 : ∀ ρ : Int × Int × Int × Int × Int × Int × Int × Sg, o = .inr ρ → ww C M_L_groups 11 0 0 nx (Qr) (Qx) nx 0 0 310 [(0, .ref 0), (1, vi x1), (2, vi ρ.1), (3, vi ρ.2.1), (4, vi ρ.2.2.1), (5, vi ρ.2.2.2.1), (6, vi ρ.2.2.2.2.1), (7, vi ρ.2.2.2.2.2.1), (8, vi ρ.2.2.2.2.2.2.1)] [] (hp nx ρ.2.2.2.2.2.2.2)) : ww C M_L_groups 11 0 0 nx (Qr) (Qx) nx 0 0 22 [(0, .ref 0), (1, vi x1), (2, vi x2), (3, vi x3), (4, vi x4), (5, vi x5), (6, vi x6), (7, vi x7), (8, vi x8), (9, vi x9)] [] (hp nx s) := by
  unfold La_groups_t22 at hs
  refine w_iload 9 dL_groups_22 rfl ?_
  refine w_aload_n 0 dL_groups_24 rfl rfl ?_
  refine x_iconst dL_groups_25 ?_
  refine x_V_Tr M_X11_size [vi 0] [vi x9] hs rfl dL_groups_26 (lkL_74 _ rfl) (lt_of hnx (Nat.le_of_ble_eq_true rfl)) rfl rfl (Nat.le_of_ble_eq_true rfl) (Nat.le_of_ble_eq_true rfl) (Nat.le_of_ble_eq_true rfl) (Nat.le_of_ble_eq_true rfl) (c_Hx_size hnx 0 s) (fun y1 s2 hy1 hs => ?_)
  refine w_aload_n 0 dL_groups_29 rfl rfl ?_
  refine x_iconst dL_groups_30 ?_
  refine x_V_Tr M_X11_size [vi 0] [vi y1, vi x9] hs rfl dL_groups_31 (lkL_74 _ rfl) (lt_of hnx (Nat.le_of_ble_eq_true rfl)) rfl rfl (Nat.le_of_ble_eq_true rfl) (Nat.le_of_ble_eq_true rfl) (Nat.le_of_ble_eq_true rfl) (Nat.le_of_ble_eq_true rfl) (c_Hx_size hnx 0 s2) (fun y3 s4 hy3 hs => ?_)
  refine x_imul dL_groups_34 ?_
  refine x_icmpge hs dL_groups_35 rfl (fun hs => ?_) (fun hs => ?_)
  · refine w_lv (lv' := [(0, .ref 0), (1, vi x1), (2, vi x2), (3, vi x3), (4, vi x4), (5, vi x5), (6, vi x6), (7, vi x7), (8, vi x8)]) [0, 1, 2, 3, 4, 5, 6, 7, 8] rfl ?_
    cases hs
    exact he0 _ rfl
  · refine w_aload_n 0 dL_groups_38 rfl rfl ?_
    refine w_iload 9 dL_groups_39 rfl ?_
    refine x_V_Tr M_X11_cell [vi x9] [] hs rfl dL_groups_41 (lkL_107 _ rfl) (lt_of hnx (Nat.le_of_ble_eq_true rfl)) rfl rfl (Nat.le_of_ble_eq_true rfl) (Nat.le_of_ble_eq_true rfl) (Nat.le_of_ble_eq_true rfl) (Nat.le_of_ble_eq_true rfl) (c_Hx_cell hnx x9 s4) (fun y5 s6 hy5 hs => ?_)
    refine w_iload_n 1 dL_groups_44 rfl rfl ?_
    refine x_icmpeq hs dL_groups_45 rfl (fun hs => ?_) (fun hs => ?_)
    · refine x_iinc (lv' := [(2, vi (x2 + 1)), (0, .ref 0), (1, vi x1), (3, vi x3), (4, vi x4), (5, vi x5), (6, vi x6), (7, vi x7), (8, vi x8), (9, vi x9)]) 2 dL_groups_51 rfl (Nat.le_of_ble_eq_true rfl) rfl ?_
      refine w_aload_n 1 dL_groups_54 rfl rfl ?_
      refine w_iload 9 dL_groups_55 rfl ?_
      refine x_iconst dL_groups_57 ?_
      refine x_V_Tr M_X11_group [vi x9, vi 0] [] hs rfl dL_groups_58 (lkL_109 _ rfl) (lt_of hnx (Nat.le_of_ble_eq_true rfl)) rfl rfl (Nat.le_of_ble_eq_true rfl) (Nat.le_of_ble_eq_true rfl) (Nat.le_of_ble_eq_true rfl) (Nat.le_of_ble_eq_true rfl) (c_Hx_group hnx x9 0 s6) (fun y7 s8 hy7 hs => ?_)
      refine w_istore (lv' := [(10, vi y7), (2, vi (x2 + 1)), (0, .ref 0), (1, vi x1), (3, vi x3), (4, vi x4), (5, vi x5), (6, vi x6), (7, vi x7), (8, vi x8), (9, vi x9)]) dL_groups_61 (Nat.le_of_ble_eq_true rfl) rfl ?_
      refine w_iload 0 dL_groups_63 rfl ?_
      refine w_iload 10 dL_groups_65 rfl ?_
      refine x_icmpgt hs dL_groups_67 rfl (fun hs => ?_) (fun hs => ?_)
      · cases hs
      · refine w_aload_n 2 dL_groups_70 rfl rfl ?_
        refine w_iload 0 dL_groups_71 rfl ?_
        refine x_V_Tr M_X11_cell [vi y7] [] hs rfl dL_groups_73 (lkL_107 _ rfl) (lt_of hnx (Nat.le_of_ble_eq_true rfl)) rfl rfl (Nat.le_of_ble_eq_true rfl) (Nat.le_of_ble_eq_true rfl) (Nat.le_of_ble_eq_true rfl) (Nat.le_of_ble_eq_true rfl) (c_Hx_cell hnx y7 s8) (fun y9 s10 hy9 hs => ?_)
        refine w_iload_n 3 dL_groups_76 rfl rfl ?_
        refine x_icmpne hs dL_groups_77 rfl (fun hs => ?_) (fun hs => ?_)
        · cases hs
        · refine w_aload_n 2 dL_groups_80 rfl rfl ?_
          refine w_iload 0 dL_groups_81 rfl ?_
          refine x_iconst dL_groups_83 ?_
          refine x_V_Tr M_X11_group [vi y7, vi 1] [] hs rfl dL_groups_84 (lkL_109 _ rfl) (lt_of hnx (Nat.le_of_ble_eq_true rfl)) rfl rfl (Nat.le_of_ble_eq_true rfl) (Nat.le_of_ble_eq_true rfl) (Nat.le_of_ble_eq_true rfl) (Nat.le_of_ble_eq_true rfl) (c_Hx_group hnx y7 1 s10) (fun y11 s12 hy11 hs => ?_)
          refine w_aload_n 2 dL_groups_87 rfl rfl ?_
          refine w_iload 10 dL_groups_88 rfl ?_
          refine x_iconst dL_groups_90 ?_
          refine x_V_Tr M_X11_group [vi x9, vi 1] [vi y11] hs rfl dL_groups_91 (lkL_109 _ rfl) (lt_of hnx (Nat.le_of_ble_eq_true rfl)) rfl rfl (Nat.le_of_ble_eq_true rfl) (Nat.le_of_ble_eq_true rfl) (Nat.le_of_ble_eq_true rfl) (Nat.le_of_ble_eq_true rfl) (c_Hx_group hnx x9 1 s12) (fun y13 s14 hy13 hs => ?_)
          refine x_icmpne hs dL_groups_94 rfl (fun hs => ?_) (fun hs => ?_)
          · cases hs
          · refine w_aload_n 2 dL_groups_97 rfl rfl ?_
            refine w_iload 10 dL_groups_98 rfl ?_
            refine x_iconst dL_groups_100 ?_
            refine x_V_Tr M_X11_chain [vi x9, vi 0] [] hs rfl dL_groups_101 (lkL_112 _ rfl) (lt_of hnx (Nat.le_of_ble_eq_true rfl)) rfl rfl (Nat.le_of_ble_eq_true rfl) (Nat.le_of_ble_eq_true rfl) (Nat.le_of_ble_eq_true rfl) (Nat.le_of_ble_eq_true rfl) (c_Hx_chain hnx x9 0 s14) (fun y15 s16 hy15 hs => ?_)
            refine w_iload 0 dL_groups_104 rfl ?_
            refine x_icmpgt hs dL_groups_106 rfl (fun hs => ?_) (fun hs => ?_)
            · cases hs
            · refine w_aload_n 2 dL_groups_109 rfl rfl ?_
              refine w_iload 10 dL_groups_110 rfl ?_
              refine x_iconst dL_groups_112 ?_
              refine x_V_Tr M_X11_chain [vi x9, vi 0] [] hs rfl dL_groups_113 (lkL_112 _ rfl) (lt_of hnx (Nat.le_of_ble_eq_true rfl)) rfl rfl (Nat.le_of_ble_eq_true rfl) (Nat.le_of_ble_eq_true rfl) (Nat.le_of_ble_eq_true rfl) (Nat.le_of_ble_eq_true rfl) (c_Hx_chain hnx x9 0 s16) (fun y17 s18 hy17 hs => ?_)
              refine w_aload_n 2 dL_groups_116 rfl rfl ?_
              refine w_iload 0 dL_groups_117 rfl ?_
              refine x_iconst dL_groups_119 ?_
              refine x_V_Tr M_X11_chain [vi y7, vi 0] [vi y17] hs rfl dL_groups_120 (lkL_112 _ rfl) (lt_of hnx (Nat.le_of_ble_eq_true rfl)) rfl rfl (Nat.le_of_ble_eq_true rfl) (Nat.le_of_ble_eq_true rfl) (Nat.le_of_ble_eq_true rfl) (Nat.le_of_ble_eq_true rfl) (c_Hx_chain hnx y7 0 s18) (fun y19 s20 hy19 hs => ?_)
              refine x_icmpne hs dL_groups_123 rfl (fun hs => ?_) (fun hs => ?_)
              · cases hs
              · refine w_aload_n 2 dL_groups_126 rfl rfl ?_
                refine w_iload 10 dL_groups_127 rfl ?_
                refine x_iconst dL_groups_129 ?_
                refine x_V_Tr M_X11_chain [vi x9, vi 1] [] hs rfl dL_groups_130 (lkL_112 _ rfl) (lt_of hnx (Nat.le_of_ble_eq_true rfl)) rfl rfl (Nat.le_of_ble_eq_true rfl) (Nat.le_of_ble_eq_true rfl) (Nat.le_of_ble_eq_true rfl) (Nat.le_of_ble_eq_true rfl) (c_Hx_chain hnx x9 1 s20) (fun y21 s22 hy21 hs => ?_)
                refine w_aload_n 2 dL_groups_133 rfl rfl ?_
                refine w_iload 10 dL_groups_134 rfl ?_
                refine x_iconst dL_groups_136 ?_
                refine x_V_Tr M_X11_group [vi x9, vi 1] [vi y21] hs rfl dL_groups_137 (lkL_109 _ rfl) (lt_of hnx (Nat.le_of_ble_eq_true rfl)) rfl rfl (Nat.le_of_ble_eq_true rfl) (Nat.le_of_ble_eq_true rfl) (Nat.le_of_ble_eq_true rfl) (Nat.le_of_ble_eq_true rfl) (c_Hx_group hnx x9 1 s22) (fun y23 s24 hy23 hs => ?_)
                refine x_icmpge hs dL_groups_140 rfl (fun hs => ?_) (fun hs => ?_)
                · refine x_iconst dL_groups_145 ?_
                  refine w_istore (lv' := [(11, vi 0), (10, vi y7), (2, vi (x2 + 1)), (0, .ref 0), (1, vi x1), (3, vi x3), (4, vi x4), (5, vi x5), (6, vi x6), (7, vi x7), (8, vi x8), (9, vi x9)]) dL_groups_146 (Nat.le_of_ble_eq_true rfl) rfl ?_
                  refine w_lv (lv' := [(0, .ref 0), (1, vi x1), (2, vi (x2 + 1)), (3, vi x3), (4, vi x4), (5, vi x5), (6, vi x6), (7, vi x7), (8, vi x8), (9, vi x9), (10, vi y7), (11, vi 0)]) [3, 4, 2, 5, 6, 7, 8, 9, 10, 11, 1, 0] rfl ?_
                  exact q_La_groups_l148 hnx x1 (x2 + 1) x3 x4 x5 x6 x7 x8 x9 y7 0 s24 hs hb he0
                · cases hs
    · refine w_goto dL_groups_48 rfl ?_
      exact q_La_groups_b304 hnx x1 x2 x3 x4 x5 x6 x7 x8 x9 s6 hs hb he0
set_option maxRecDepth 100000 in
theorem q_La_groups_b461 {C : Cx} {nx : Nat} (hnx : 80 ≤ nx) (t0 : Int) (t1 : Int) (s : Sg) {o : Int × Sg} (hs : La_groups_b461 t0 t1 s = some o) : ww C M_L_groups 11 0 0 nx (QI nx o.2 o.1) (XF) nx 0 0 461 [] [vi t1, vi t0] (hp nx s) := by
  unfold La_groups_b461 at hs
  refine x_icmpne hs dL_groups_461 rfl (fun hs => ?_) (fun hs => ?_)
  · cases hs
  · refine x_iconst dL_groups_464 ?_
    refine w_goto dL_groups_465 rfl ?_
    cases hs
    exact x_zreturn (Or.inr rfl) dL_groups_469 rfl rfl (Nat.le_of_ble_eq_true rfl) (Nat.le_of_ble_eq_true rfl) ⟨rfl, rfl⟩
set_option maxRecDepth 100000 in
theorem q_La_groups_b452 {C : Cx} {nx : Nat} (hnx : 80 ≤ nx) (x2 : Int) (t0 : Int) (s : Sg) {o : Int × Sg} (hs : La_groups_b452 x2 t0 s = some o) : ww C M_L_groups 11 0 0 nx (QI nx o.2 o.1) (XF) nx 0 0 452 [(2, vi x2)] [vi t0] (hp nx s) := by
  unfold La_groups_b452 at hs
  refine w_iload_n 0 dL_groups_452 rfl rfl ?_
  refine x_ifne hs dL_groups_453 rfl (fun hs => ?_) (fun hs => ?_)
  · refine x_iconst dL_groups_460 ?_
    refine w_lv (lv' := []) [] rfl ?_
    exact q_La_groups_b461 hnx t0 0 s hs
  · refine x_iconst dL_groups_456 ?_
    refine w_goto dL_groups_457 rfl ?_
    refine w_lv (lv' := []) [] rfl ?_
    exact q_La_groups_b461 hnx t0 1 s hs
set_option maxRecDepth 100000 in
theorem q_La_groups_b434 {C : Cx} {nx : Nat} (hnx : 80 ≤ nx) (x1 : Int) (x2 : Int) (x7 : Int) (t0 : Int) (s : Sg) {o : Int × Sg} (hs : La_groups_b434 x1 x2 x7 t0 s = some o) : ww C M_L_groups 11 0 0 nx (QI nx o.2 o.1) (XF) nx 0 0 434 [(0, .ref 0), (1, vi x1), (2, vi x2), (7, vi x7)] [vi t0] (hp nx s) := by
  unfold La_groups_b434 at hs
  refine w_iload 3 dL_groups_434 rfl ?_
  refine x_icmpne hs dL_groups_436 rfl (fun hs => ?_) (fun hs => ?_)
  · cases hs
  · refine w_aload_n 0 dL_groups_439 rfl rfl ?_
    refine w_iload_n 1 dL_groups_440 rfl rfl ?_
    refine x_V_Tr M_X11_largest [vi x1] [] hs rfl dL_groups_441 (lkL_135 _ rfl) (lt_of hnx (Nat.le_of_ble_eq_true rfl)) rfl rfl (Nat.le_of_ble_eq_true rfl) (Nat.le_of_ble_eq_true rfl) (Nat.le_of_ble_eq_true rfl) (Nat.le_of_ble_eq_true rfl) (c_Hx_largest hnx x1 s) (fun y69 s70 hy69 hs => ?_)
    refine x_ifge hs dL_groups_444 rfl (fun hs => ?_) (fun hs => ?_)
    · refine x_iconst dL_groups_451 ?_
      refine w_lv (lv' := [(2, vi x2)]) [2] rfl ?_
      exact q_La_groups_b452 hnx x2 0 s70 hs
    · refine x_iconst dL_groups_447 ?_
      refine w_goto dL_groups_448 rfl ?_
      refine w_lv (lv' := [(2, vi x2)]) [2] rfl ?_
      exact q_La_groups_b452 hnx x2 1 s70 hs
set_option maxRecDepth 100000 in
theorem q_La_groups_b421 {C : Cx} {nx : Nat} (hnx : 80 ≤ nx) (x1 : Int) (x2 : Int) (x7 : Int) (s : Sg) {o : Int × Sg} (hs : La_groups_b421 x1 x2 x7 s = some o) : ww C M_L_groups 11 0 0 nx (QI nx o.2 o.1) (XF) nx 0 0 421 [(0, .ref 0), (1, vi x1), (2, vi x2), (7, vi x7)] [] (hp nx s) := by
  unfold La_groups_b421 at hs
  refine w_aload_n 0 dL_groups_421 rfl rfl ?_
  refine w_iload_n 1 dL_groups_422 rfl rfl ?_
  refine x_V_Tr M_X11_distance [vi x1] [] hs rfl dL_groups_423 (lkL_132 _ rfl) (lt_of hnx (Nat.le_of_ble_eq_true rfl)) rfl rfl (Nat.le_of_ble_eq_true rfl) (Nat.le_of_ble_eq_true rfl) (Nat.le_of_ble_eq_true rfl) (Nat.le_of_ble_eq_true rfl) (c_Hx_distance hnx x1 s) (fun y67 s68 hy67 hs => ?_)
  refine x_ifne hs dL_groups_426 rfl (fun hs => ?_) (fun hs => ?_)
  · refine x_iconst dL_groups_433 ?_
    exact q_La_groups_b434 hnx x1 x2 x7 0 s68 hs
  · refine x_iconst dL_groups_429 ?_
    refine w_goto dL_groups_430 rfl ?_
    exact q_La_groups_b434 hnx x1 x2 x7 1 s68 hs
set_option maxRecDepth 100000 in
theorem q_La_groups_b354 {C : Cx} {nx : Nat} (hnx : 80 ≤ nx) (x1 : Int) (x2 : Int) (x3 : Int) (x4 : Int) (x5 : Int) (x6 : Int) (x7 : Int) (x8 : Int) (s : Sg) {o : Int × Sg} (hs : La_groups_b354 x1 x2 x3 x4 x5 x6 x7 x8 s = some o) : ww C M_L_groups 11 0 0 nx (QI nx o.2 o.1) (XF) nx 0 0 354 [(0, .ref 0), (1, vi x1), (2, vi x2), (3, vi x3), (4, vi x4), (5, vi x5), (6, vi x6), (7, vi x7), (8, vi x8)] [] (hp nx s) := by
  unfold La_groups_b354 at hs
  refine w_aload_n 0 dL_groups_354 rfl rfl ?_
  refine x_iconst dL_groups_355 ?_
  refine w_iload_n 1 dL_groups_356 rfl rfl ?_
  refine x_iadd dL_groups_357 ?_
  refine x_V_Tr M_X11_size [vi (1 + x1)] [] hs rfl dL_groups_358 (lkL_74 _ rfl) (lt_of hnx (Nat.le_of_ble_eq_true rfl)) rfl rfl (Nat.le_of_ble_eq_true rfl) (Nat.le_of_ble_eq_true rfl) (Nat.le_of_ble_eq_true rfl) (Nat.le_of_ble_eq_true rfl) (c_Hx_size hnx (1 + x1) s) (fun y57 s58 hy57 hs => ?_)
  refine w_iload_n 2 dL_groups_361 rfl rfl ?_
  refine x_icmpne hs dL_groups_362 rfl (fun hs => ?_) (fun hs => ?_)
  · cases hs
  · refine w_aload_n 0 dL_groups_365 rfl rfl ?_
    refine w_iload_n 1 dL_groups_366 rfl rfl ?_
    refine x_V_Tr M_X11_groups [vi x1] [] hs rfl dL_groups_367 (lkL_118 _ rfl) (lt_of hnx (Nat.le_of_ble_eq_true rfl)) rfl rfl (Nat.le_of_ble_eq_true rfl) (Nat.le_of_ble_eq_true rfl) (Nat.le_of_ble_eq_true rfl) (Nat.le_of_ble_eq_true rfl) (c_Hx_groups hnx x1 s58) (fun y59 s60 hy59 hs => ?_)
    refine w_iload_n 3 dL_groups_370 rfl rfl ?_
    refine x_icmpne hs dL_groups_371 rfl (fun hs => ?_) (fun hs => ?_)
    · cases hs
    · refine w_aload_n 0 dL_groups_374 rfl rfl ?_
      refine w_iload_n 1 dL_groups_375 rfl rfl ?_
      refine x_V_Tr M_X11_chains [vi x1] [] hs rfl dL_groups_376 (lkL_121 _ rfl) (lt_of hnx (Nat.le_of_ble_eq_true rfl)) rfl rfl (Nat.le_of_ble_eq_true rfl) (Nat.le_of_ble_eq_true rfl) (Nat.le_of_ble_eq_true rfl) (Nat.le_of_ble_eq_true rfl) (c_Hx_chains hnx x1 s60) (fun y61 s62 hy61 hs => ?_)
      refine w_iload 5 dL_groups_379 rfl ?_
      refine x_icmpne hs dL_groups_381 rfl (fun hs => ?_) (fun hs => ?_)
      · cases hs
      · refine w_iload 4 dL_groups_384 rfl ?_
        refine w_iload_n 2 dL_groups_386 rfl rfl ?_
        refine x_icmpne hs dL_groups_387 rfl (fun hs => ?_) (fun hs => ?_)
        · cases hs
        · refine w_aload_n 0 dL_groups_390 rfl rfl ?_
          refine w_iload_n 1 dL_groups_391 rfl rfl ?_
          refine x_iconst dL_groups_392 ?_
          refine x_V_Tr M_X11_bridges [vi x1, vi 1] [] hs rfl dL_groups_393 (lkL_124 _ rfl) (lt_of hnx (Nat.le_of_ble_eq_true rfl)) rfl rfl (Nat.le_of_ble_eq_true rfl) (Nat.le_of_ble_eq_true rfl) (Nat.le_of_ble_eq_true rfl) (Nat.le_of_ble_eq_true rfl) (c_Hx_bridges hnx x1 1 s62) (fun y63 s64 hy63 hs => ?_)
          refine w_iload 6 dL_groups_396 rfl ?_
          refine x_icmpne hs dL_groups_398 rfl (fun hs => ?_) (fun hs => ?_)
          · cases hs
          · refine w_aload_n 0 dL_groups_401 rfl rfl ?_
            refine w_iload_n 1 dL_groups_402 rfl rfl ?_
            refine x_V_Tr M_X11_isSafe [vi x1] [] hs rfl dL_groups_403 (lkL_128 _ rfl) (lt_of hnx (Nat.le_of_ble_eq_true rfl)) rfl rfl (Nat.le_of_ble_eq_true rfl) (Nat.le_of_ble_eq_true rfl) (Nat.le_of_ble_eq_true rfl) (Nat.le_of_ble_eq_true rfl) (c_Hx_isSafe hnx x1 s64) (fun y65 s66 hy65 hs => ?_)
            refine w_iload 8 dL_groups_406 rfl ?_
            refine x_icmpne hs dL_groups_408 rfl (fun hs => ?_) (fun hs => ?_)
            · cases hs
            · refine w_iload 7 dL_groups_411 rfl ?_
              refine x_ifeq hs dL_groups_413 rfl (fun hs => ?_) (fun hs => ?_)
              · refine w_lv (lv' := [(0, .ref 0), (1, vi x1), (2, vi x2), (7, vi x7)]) [0, 1, 2, 7] rfl ?_
                exact q_La_groups_b421 hnx x1 x2 x7 s66 hs
              · refine w_iload 8 dL_groups_416 rfl ?_
                refine x_ifeq hs dL_groups_418 rfl (fun hs => ?_) (fun hs => ?_)
                · cases hs
                · refine w_lv (lv' := [(0, .ref 0), (1, vi x1), (2, vi x2), (7, vi x7)]) [0, 1, 2, 7] rfl ?_
                  exact q_La_groups_b421 hnx x1 x2 x7 s66 hs
set_option maxRecDepth 100000 in
theorem q_La_groups_b325 {C : Cx} {nx : Nat} (hnx : 80 ≤ nx) (x1 : Int) (x2 : Int) (x3 : Int) (x4 : Int) (x5 : Int) (x6 : Int) (x7 : Int) (x8 : Int) (s : Sg) {o : Int × Sg} (hs : La_groups_b325 x1 x2 x3 x4 x5 x6 x7 x8 s = some o) : ww C M_L_groups 11 0 0 nx (QI nx o.2 o.1) (XF) nx 0 0 325 [(0, .ref 0), (1, vi x1), (2, vi x2), (3, vi x3), (4, vi x4), (5, vi x5), (6, vi x6), (7, vi x7), (8, vi x8)] [] (hp nx s) := by
  unfold La_groups_b325 at hs
  refine w_iload 7 dL_groups_325 rfl ?_
  refine x_ifne hs dL_groups_327 rfl (fun hs => ?_) (fun hs => ?_)
  · exact q_La_groups_b354 hnx x1 x2 x3 x4 x5 x6 x7 x8 s hs
  · refine w_aload_n 0 dL_groups_330 rfl rfl ?_
    refine x_bipush dL_groups_331 (by decide) ?_
    refine x_V_Tr M_X11_size [vi 6] [] hs rfl dL_groups_333 (lkL_74 _ rfl) (lt_of hnx (Nat.le_of_ble_eq_true rfl)) rfl rfl (Nat.le_of_ble_eq_true rfl) (Nat.le_of_ble_eq_true rfl) (Nat.le_of_ble_eq_true rfl) (Nat.le_of_ble_eq_true rfl) (c_Hx_size hnx 6 s) (fun y71 s72 hy71 hs => ?_)
    refine w_iload_n 1 dL_groups_336 rfl rfl ?_
    refine x_icmpne hs dL_groups_337 rfl (fun hs => ?_) (fun hs => ?_)
    · exact q_La_groups_b354 hnx x1 x2 x3 x4 x5 x6 x7 x8 s72 hs
    · refine w_aload_n 0 dL_groups_340 rfl rfl ?_
      refine x_bipush dL_groups_341 (by decide) ?_
      refine x_V_Tr M_X11_size [vi 8] [] hs rfl dL_groups_343 (lkL_74 _ rfl) (lt_of hnx (Nat.le_of_ble_eq_true rfl)) rfl rfl (Nat.le_of_ble_eq_true rfl) (Nat.le_of_ble_eq_true rfl) (Nat.le_of_ble_eq_true rfl) (Nat.le_of_ble_eq_true rfl) (c_Hx_size hnx 8 s72) (fun y73 s74 hy73 hs => ?_)
      refine x_iconst dL_groups_346 ?_
      refine w_iload_n 1 dL_groups_347 rfl rfl ?_
      refine x_isub dL_groups_348 ?_
      refine x_icmpeq hs dL_groups_349 rfl (fun hs => ?_) (fun hs => ?_)
      · exact q_La_groups_b354 hnx x1 x2 x3 x4 x5 x6 x7 x8 s74 hs
      · cases hs
set_option maxRecDepth 100000 in
theorem q_La_groups_l22 {C : Cx} {nx : Nat} (hnx : 80 ≤ nx) (x1 : Int) (x2 : Int) (x3 : Int) (x4 : Int) (x5 : Int) (x6 : Int) (x7 : Int) (x8 : Int) (x9 : Int) (s : Sg) {o : Int × Sg} (hs : La_groups_l22 x1 x2 x3 x4 x5 x6 x7 x8 x9 s = some o) : ww C M_L_groups 11 0 0 nx (QI nx o.2 o.1) (XF) nx 0 0 22 [(0, .ref 0), (1, vi x1), (2, vi x2), (3, vi x3), (4, vi x4), (5, vi x5), (6, vi x6), (7, vi x7), (8, vi x8), (9, vi x9)] [] (hp nx s) := by
  unfold La_groups_l22 at hs
  refine bnd_e hs (fun ρ hw hs => ?_)
  obtain ⟨x2_49, x3_50, x4_51, x5_52, x6_53, x7_54, x8_55, s_56⟩ := ρ
  have hE : ww C M_L_groups 11 0 0 nx (QI nx o.2 o.1) (XF) nx 0 0 310 [(0, .ref 0), (1, vi x1), (2, vi x2_49), (3, vi x3_50), (4, vi x4_51), (5, vi x5_52), (6, vi x6_53), (7, vi x7_54), (8, vi x8_55)] [] (hp nx s_56) := by
    refine w_iload 7 dL_groups_310 rfl ?_
    refine x_ifeq hs dL_groups_312 rfl (fun hs => ?_) (fun hs => ?_)
    · exact q_La_groups_b325 hnx x1 x2_49 x3_50 x4_51 x5_52 x6_53 x7_54 x8_55 s_56 hs
    · refine w_aload_n 0 dL_groups_315 rfl rfl ?_
      refine x_bipush dL_groups_316 (by decide) ?_
      refine x_V_Tr M_X11_size [vi 6] [] hs rfl dL_groups_318 (lkL_74 _ rfl) (lt_of hnx (Nat.le_of_ble_eq_true rfl)) rfl rfl (Nat.le_of_ble_eq_true rfl) (Nat.le_of_ble_eq_true rfl) (Nat.le_of_ble_eq_true rfl) (Nat.le_of_ble_eq_true rfl) (c_Hx_size hnx 6 s_56) (fun y75 s76 hy75 hs => ?_)
      refine w_iload_n 1 dL_groups_321 rfl rfl ?_
      refine x_icmpne hs dL_groups_322 rfl (fun hs => ?_) (fun hs => ?_)
      · cases hs
      · exact q_La_groups_b325 hnx x1 x2_49 x3_50 x4_51 x5_52 x6_53 x7_54 x8_55 s76 hs
  refine whl_w (P := fun σ => ww C M_L_groups 11 0 0 nx (QI nx o.2 o.1) (XF) nx 0 0 22 [(0, .ref 0), (1, vi x1), (2, vi σ.1), (3, vi σ.2.1), (4, vi σ.2.2.1), (5, vi σ.2.2.2.1), (6, vi σ.2.2.2.2.1), (7, vi σ.2.2.2.2.2.1), (8, vi σ.2.2.2.2.2.2.1), (9, vi σ.2.2.2.2.2.2.2.1)] [] (hp nx σ.2.2.2.2.2.2.2.2)) (E := fun ρ => ρ = (x2_49, x3_50, x4_51, x5_52, x6_53, x7_54, x8_55, s_56)) hw rfl ?_
  intro σ o' hs' hb' he'
  exact q_La_groups_t22 hnx x1 σ.1 σ.2.1 σ.2.2.1 σ.2.2.2.1 σ.2.2.2.2.1 σ.2.2.2.2.2.1 σ.2.2.2.2.2.2.1 σ.2.2.2.2.2.2.2.1 σ.2.2.2.2.2.2.2.2 hs' hb' (fun ρ e => by cases he' _ e; exact hE)
set_option maxRecDepth 100000 in
theorem c_La_groups {C : Cx} {nx : Nat} (hnx : 80 ≤ nx) (x1 : Int) (s : Sg) : ∀ o, La_groups x1 s = some o → mm C M_L_groups 11 0 0 nx nx [.ref 0, vi x1] (hp nx s) (QI nx o.2 o.1) (XF) := by
  intro o hs
  unfold La_groups at hs
  refine mm_of rfl rfl (Nat.le_of_ble_eq_true rfl) ?_
  show ww C M_L_groups 11 0 0 nx (QI nx o.2 o.1) (XF) nx 0 0 0 [(0, .ref 0), (1, vi x1)] [] (hp nx s)
  refine x_iconst dL_groups_0 ?_
  refine w_istore_n (lv' := [(2, vi 0), (0, .ref 0), (1, vi x1)]) dL_groups_1 rfl (Nat.le_of_ble_eq_true rfl) rfl ?_
  refine x_iconst dL_groups_2 ?_
  refine w_istore_n (lv' := [(3, vi 0), (2, vi 0), (0, .ref 0), (1, vi x1)]) dL_groups_3 rfl (Nat.le_of_ble_eq_true rfl) rfl ?_
  refine x_iconst dL_groups_4 ?_
  refine w_istore (lv' := [(4, vi 0), (3, vi 0), (2, vi 0), (0, .ref 0), (1, vi x1)]) dL_groups_5 (Nat.le_of_ble_eq_true rfl) rfl ?_
  refine x_iconst dL_groups_7 ?_
  refine w_istore (lv' := [(5, vi 0), (4, vi 0), (3, vi 0), (2, vi 0), (0, .ref 0), (1, vi x1)]) dL_groups_8 (Nat.le_of_ble_eq_true rfl) rfl ?_
  refine x_iconst dL_groups_10 ?_
  refine w_istore (lv' := [(6, vi 0), (5, vi 0), (4, vi 0), (3, vi 0), (2, vi 0), (0, .ref 0), (1, vi x1)]) dL_groups_11 (Nat.le_of_ble_eq_true rfl) rfl ?_
  refine x_iconst dL_groups_13 ?_
  refine w_istore (lv' := [(7, vi 0), (6, vi 0), (5, vi 0), (4, vi 0), (3, vi 0), (2, vi 0), (0, .ref 0), (1, vi x1)]) dL_groups_14 (Nat.le_of_ble_eq_true rfl) rfl ?_
  refine x_iconst dL_groups_16 ?_
  refine w_istore (lv' := [(8, vi 0), (7, vi 0), (6, vi 0), (5, vi 0), (4, vi 0), (3, vi 0), (2, vi 0), (0, .ref 0), (1, vi x1)]) dL_groups_17 (Nat.le_of_ble_eq_true rfl) rfl ?_
  refine x_iconst dL_groups_19 ?_
  refine w_istore (lv' := [(9, vi 0), (8, vi 0), (7, vi 0), (6, vi 0), (5, vi 0), (4, vi 0), (3, vi 0), (2, vi 0), (0, .ref 0), (1, vi x1)]) dL_groups_20 (Nat.le_of_ble_eq_true rfl) rfl ?_
  refine w_lv (lv' := [(0, .ref 0), (1, vi x1), (2, vi 0), (3, vi 0), (4, vi 0), (5, vi 0), (6, vi 0), (7, vi 0), (8, vi 0), (9, vi 0)]) [8, 9, 7, 6, 5, 4, 3, 2, 1, 0] rfl ?_
  exact q_La_groups_l22 hnx x1 0 0 0 0 0 0 0 0 s hs
set_option maxRecDepth 100000 in
theorem q_La_bridges_b286 {C : Cx} {nx : Nat} (hnx : 80 ≤ nx) {Qr : Option Value → Hp → Prop} {Qx : String → Hp → Prop}  (x1 : Int) (r2 : Nat) (h_r2 : isTk C nx r2) (x3 : Int) (x4 : Int) (s : Sg) {o : ((Int × Sg) ⊕ (Sg))} (hs : La_bridges_b286 x1 r2 x3 x4 s = some o) (hb : ∀ σ : Int × Sg, o = .inl σ → ww C M_L_bridges 11 1 81 nx (Qr) (Qx) nx 1 81 28 [(0, .ref 0), (1, vi x1), (2, .ref r2), (3, vi x3), (4, vi σ.1)] [] (hp nx σ.2)) (he0 : ∀ ρ : Sg, o = .inr ρ → ww C M_L_bridges 11 1 81 nx (Qr) (Qx) nx 1 81 292 [] [] (hp nx ρ)) : ww C M_L_bridges 11 1 81 nx (Qr) (Qx) nx 1 81 286 [(0, .ref 0), (1, vi x1), (2, .ref r2), (3, vi x3), (4, vi x4)] [] (hp nx s) := by
  unfold La_bridges_b286 at hs
  refine x_iinc (lv' := [(4, vi (x4 + 1)), (0, .ref 0), (1, vi x1), (2, .ref r2), (3, vi x3)]) 4 dL_bridges_286 rfl (Nat.le_of_ble_eq_true rfl) rfl ?_
  refine w_goto dL_bridges_289 rfl ?_
  refine w_lv (lv' := [(0, .ref 0), (1, vi x1), (2, .ref r2), (3, vi x3), (4, vi (x4 + 1))]) [1, 2, 3, 4, 0] rfl ?_
  cases hs
  exact hb _ rfl
set_option maxRecDepth 100000 in
theorem q_La_bridges_b262 {C : Cx} {nx : Nat} (hnx : 80 ≤ nx) {Qr : Option Value → Hp → Prop} {Qx : String → Hp → Prop}  (x1 : Int) (r2 : Nat) (h_r2 : isTk C nx r2) (x3 : Int) (x4 : Int) (x5 : Int) (x6 : Int) (s : Sg) {o : ((Int × Sg) ⊕ (Sg))} (hs : La_bridges_b262 x1 r2 x3 x4 x5 x6 s = some o) (hb : ∀ σ : Int × Sg, o = .inl σ → ww C M_L_bridges 11 1 81 nx (Qr) (Qx) nx 1 81 28 [(0, .ref 0), (1, vi x1), (2, .ref r2), (3, vi x3), (4, vi σ.1)] [] (hp nx σ.2)) (he0 : ∀ ρ : Sg, o = .inr ρ → ww C M_L_bridges 11 1 81 nx (Qr) (Qx) nx 1 81 292 [] [] (hp nx ρ)) : ww C M_L_bridges 11 1 81 nx (Qr) (Qx) nx 1 81 262 [(0, .ref 0), (1, vi x1), (2, .ref r2), (3, vi x3), (4, vi x4), (5, vi x5), (6, vi x6)] [] (hp nx s) := by
  unfold La_bridges_b262 at hs
  refine w_iload 6 dL_bridges_262 rfl ?_
  refine x_iflt hs dL_bridges_264 rfl (fun hs => ?_) (fun hs => ?_)
  · refine w_lv (lv' := [(0, .ref 0), (1, vi x1), (2, .ref r2), (3, vi x3), (4, vi x4)]) [0, 1, 2, 3, 4] rfl ?_
    exact q_La_bridges_b286 hnx x1 r2 h_r2 x3 x4 s hs hb he0
  · refine w_aload_n 0 dL_bridges_267 rfl rfl ?_
    refine w_iload 5 dL_bridges_268 rfl ?_
    refine x_iconst dL_bridges_270 ?_
    refine x_V_Tr M_X11_chain [vi x5, vi 0] [] hs rfl dL_bridges_271 (lkL_112 _ rfl) (lt_of hnx (Nat.le_of_ble_eq_true rfl)) rfl rfl (Nat.le_of_ble_eq_true rfl) (Nat.le_of_ble_eq_true rfl) (Nat.le_of_ble_eq_true rfl) (Nat.le_of_ble_eq_true rfl) (c_Hx_chain hnx x5 0 s) (fun y28 s29 hy28 hs => ?_)
    refine w_aload_n 0 dL_bridges_274 rfl rfl ?_
    refine w_iload 6 dL_bridges_275 rfl ?_
    refine x_iconst dL_bridges_277 ?_
    refine x_V_Tr M_X11_chain [vi x6, vi 0] [vi y28] hs rfl dL_bridges_278 (lkL_112 _ rfl) (lt_of hnx (Nat.le_of_ble_eq_true rfl)) rfl rfl (Nat.le_of_ble_eq_true rfl) (Nat.le_of_ble_eq_true rfl) (Nat.le_of_ble_eq_true rfl) (Nat.le_of_ble_eq_true rfl) (c_Hx_chain hnx x6 0 s29) (fun y30 s31 hy30 hs => ?_)
    refine x_icmpeq hs dL_bridges_281 rfl (fun hs => ?_) (fun hs => ?_)
    · refine w_lv (lv' := [(0, .ref 0), (1, vi x1), (2, .ref r2), (3, vi x3), (4, vi x4)]) [0, 1, 2, 3, 4] rfl ?_
      exact q_La_bridges_b286 hnx x1 r2 h_r2 x3 x4 s31 hs hb he0
    · cases hs
set_option maxRecDepth 100000 in
theorem q_La_bridges_b204 {C : Cx} {nx : Nat} (hnx : 80 ≤ nx) {Qr : Option Value → Hp → Prop} {Qx : String → Hp → Prop}  (x1 : Int) (r2 : Nat) (h_r2 : isTk C nx r2) (x3 : Int) (x4 : Int) (x5 : Int) (x6 : Int) (x7 : Int) (x8 : Int) (x9 : Int) (t0 : Int) (s : Sg) {o : ((Int × Sg) ⊕ (Sg))} (hs : La_bridges_b204 x1 r2 x3 x4 x5 x6 x7 x8 x9 t0 s = some o) (hb : ∀ σ : Int × Sg, o = .inl σ → ww C M_L_bridges 11 1 81 nx (Qr) (Qx) nx 1 81 28 [(0, .ref 0), (1, vi x1), (2, .ref r2), (3, vi x3), (4, vi σ.1)] [] (hp nx σ.2)) (he0 : ∀ ρ : Sg, o = .inr ρ → ww C M_L_bridges 11 1 81 nx (Qr) (Qx) nx 1 81 292 [] [] (hp nx ρ)) : ww C M_L_bridges 11 1 81 nx (Qr) (Qx) nx 1 81 204 [(0, .ref 0), (1, vi x1), (2, .ref r2), (3, vi x3), (4, vi x4), (5, vi x5), (6, vi x6), (7, vi x7), (8, vi x8), (9, vi x9)] [vi t0] (hp nx s) := by
  unfold La_bridges_b204 at hs
  refine w_iload 9 dL_bridges_204 rfl ?_
  refine x_icmpeq hs dL_bridges_206 rfl (fun hs => ?_) (fun hs => ?_)
  · refine w_iload 9 dL_bridges_211 rfl ?_
    refine x_ifne hs dL_bridges_213 rfl (fun hs => ?_) (fun hs => ?_)
    · refine w_aload_n 2 dL_bridges_219 rfl rfl ?_
      refine w_iload 7 dL_bridges_220 rfl ?_
      refine x_iconst dL_bridges_222 ?_
      refine grd_e hs (fun hg22 hs => ?_)
      refine x_zastC (Or.inr rfl) hg22 (by decide) dL_bridges_223 h_r2.1 h_r2.2 ?_
      refine nam_s hs (fun s23 hs => ?_)
      refine w_aload_n 2 dL_bridges_224 rfl rfl ?_
      refine w_iload 8 dL_bridges_225 rfl ?_
      refine x_iconst dL_bridges_227 ?_
      refine grd_e hs (fun hg24 hs => ?_)
      refine x_zastC (Or.inr rfl) hg24 (by decide) dL_bridges_228 h_r2.1 h_r2.2 ?_
      refine nam_s hs (fun s25 hs => ?_)
      refine w_aload_n 0 dL_bridges_229 rfl rfl ?_
      refine x_iconst dL_bridges_230 ?_
      refine x_V_Tr M_X11_size [vi 5] [] hs rfl dL_bridges_231 (lkL_74 _ rfl) (lt_of hnx (Nat.le_of_ble_eq_true rfl)) rfl rfl (Nat.le_of_ble_eq_true rfl) (Nat.le_of_ble_eq_true rfl) (Nat.le_of_ble_eq_true rfl) (Nat.le_of_ble_eq_true rfl) (c_Hx_size hnx 5 s25) (fun y26 s27 hy26 hs => ?_)
      refine w_iload_n 1 dL_bridges_234 rfl rfl ?_
      refine x_icmpeq hs dL_bridges_235 rfl (fun hs => ?_) (fun hs => ?_)
      · refine w_lv (lv' := [(0, .ref 0), (1, vi x1), (2, .ref r2), (3, vi x3), (4, vi x4), (5, vi x5), (6, vi x6)]) [0, 1, 2, 3, 4, 5, 6] rfl ?_
        exact q_La_bridges_b262 hnx x1 r2 h_r2 x3 x4 x5 x6 s27 hs hb he0
      · refine w_aload_n 0 dL_bridges_238 rfl rfl ?_
        refine w_iload 7 dL_bridges_239 rfl ?_
        refine x_V_Tr M_X11_answer [vi x7] [] hs rfl dL_bridges_241 (lkL_146 _ rfl) (lt_of hnx (Nat.le_of_ble_eq_true rfl)) rfl rfl (Nat.le_of_ble_eq_true rfl) (Nat.le_of_ble_eq_true rfl) (Nat.le_of_ble_eq_true rfl) (Nat.le_of_ble_eq_true rfl) (c_Hx_answer hnx x7 s27) (fun y32 s33 hy32 hs => ?_)
        refine w_iload 8 dL_bridges_244 rfl ?_
        refine x_icmpne hs dL_bridges_246 rfl (fun hs => ?_) (fun hs => ?_)
        · cases hs
        · refine w_aload_n 0 dL_bridges_249 rfl rfl ?_
          refine w_iload 8 dL_bridges_250 rfl ?_
          refine x_V_Tr M_X11_answer [vi x8] [] hs rfl dL_bridges_252 (lkL_146 _ rfl) (lt_of hnx (Nat.le_of_ble_eq_true rfl)) rfl rfl (Nat.le_of_ble_eq_true rfl) (Nat.le_of_ble_eq_true rfl) (Nat.le_of_ble_eq_true rfl) (Nat.le_of_ble_eq_true rfl) (c_Hx_answer hnx x8 s33) (fun y34 s35 hy34 hs => ?_)
          refine w_iload 7 dL_bridges_255 rfl ?_
          refine x_icmpeq hs dL_bridges_257 rfl (fun hs => ?_) (fun hs => ?_)
          · refine w_lv (lv' := [(0, .ref 0), (1, vi x1), (2, .ref r2), (3, vi x3), (4, vi x4), (5, vi x5), (6, vi x6)]) [0, 1, 2, 3, 4, 5, 6] rfl ?_
            exact q_La_bridges_b262 hnx x1 r2 h_r2 x3 x4 x5 x6 s35 hs hb he0
          · cases hs
    · refine w_goto dL_bridges_216 rfl ?_
      refine w_lv (lv' := [(0, .ref 0), (1, vi x1), (2, .ref r2), (3, vi x3), (4, vi x4)]) [0, 1, 2, 3, 4] rfl ?_
      exact q_La_bridges_b286 hnx x1 r2 h_r2 x3 x4 s hs hb he0
  · cases hs
set_option maxRecDepth 100000 in
theorem q_La_bridges_b185 {C : Cx} {nx : Nat} (hnx : 80 ≤ nx) {Qr : Option Value → Hp → Prop} {Qx : String → Hp → Prop}  (x1 : Int) (r2 : Nat) (h_r2 : isTk C nx r2) (x3 : Int) (x4 : Int) (x5 : Int) (x6 : Int) (x7 : Int) (x8 : Int) (t0 : Int) (s : Sg) {o : ((Int × Sg) ⊕ (Sg))} (hs : La_bridges_b185 x1 r2 x3 x4 x5 x6 x7 x8 t0 s = some o) (hb : ∀ σ : Int × Sg, o = .inl σ → ww C M_L_bridges 11 1 81 nx (Qr) (Qx) nx 1 81 28 [(0, .ref 0), (1, vi x1), (2, .ref r2), (3, vi x3), (4, vi σ.1)] [] (hp nx σ.2)) (he0 : ∀ ρ : Sg, o = .inr ρ → ww C M_L_bridges 11 1 81 nx (Qr) (Qx) nx 1 81 292 [] [] (hp nx ρ)) : ww C M_L_bridges 11 1 81 nx (Qr) (Qx) nx 1 81 185 [(0, .ref 0), (1, vi x1), (2, .ref r2), (3, vi x3), (4, vi x4), (5, vi x5), (6, vi x6), (7, vi x7), (8, vi x8)] [vi t0] (hp nx s) := by
  unfold La_bridges_b185 at hs
  refine w_istore (lv' := [(9, vi t0), (0, .ref 0), (1, vi x1), (2, .ref r2), (3, vi x3), (4, vi x4), (5, vi x5), (6, vi x6), (7, vi x7), (8, vi x8)]) dL_bridges_185 (Nat.le_of_ble_eq_true rfl) rfl ?_
  refine w_aload_n 1 dL_bridges_187 rfl rfl ?_
  refine w_iload_n 2 dL_bridges_188 rfl rfl ?_
  refine w_iload 5 dL_bridges_189 rfl ?_
  refine x_iconst dL_bridges_191 ?_
  refine x_V_Tr M_X11_bridge [vi x1, vi x4, vi 4] [] hs rfl dL_bridges_192 (lkL_138 _ rfl) (lt_of hnx (Nat.le_of_ble_eq_true rfl)) rfl rfl (Nat.le_of_ble_eq_true rfl) (Nat.le_of_ble_eq_true rfl) (Nat.le_of_ble_eq_true rfl) (Nat.le_of_ble_eq_true rfl) (c_Hx_bridge hnx x1 x4 4 s) (fun y20 s21 hy20 hs => ?_)
  refine x_iconst dL_bridges_195 ?_
  refine x_icmpne hs dL_bridges_196 rfl (fun hs => ?_) (fun hs => ?_)
  · refine x_iconst dL_bridges_203 ?_
    refine w_lv (lv' := [(0, .ref 0), (1, vi x1), (2, .ref r2), (3, vi x3), (4, vi x4), (5, vi x5), (6, vi x6), (7, vi x7), (8, vi x8), (9, vi t0)]) [1, 2, 3, 4, 5, 6, 7, 8, 9, 0] rfl ?_
    exact q_La_bridges_b204 hnx x1 r2 h_r2 x3 x4 x5 x6 x7 x8 t0 0 s21 hs hb he0
  · refine x_iconst dL_bridges_199 ?_
    refine w_goto dL_bridges_200 rfl ?_
    refine w_lv (lv' := [(0, .ref 0), (1, vi x1), (2, .ref r2), (3, vi x3), (4, vi x4), (5, vi x5), (6, vi x6), (7, vi x7), (8, vi x8), (9, vi t0)]) [1, 2, 3, 4, 5, 6, 7, 8, 9, 0] rfl ?_
    exact q_La_bridges_b204 hnx x1 r2 h_r2 x3 x4 x5 x6 x7 x8 t0 1 s21 hs hb he0
set_option maxRecDepth 100000 in
theorem q_La_bridges_b184 {C : Cx} {nx : Nat} (hnx : 80 ≤ nx) {Qr : Option Value → Hp → Prop} {Qx : String → Hp → Prop}  (x1 : Int) (r2 : Nat) (h_r2 : isTk C nx r2) (x3 : Int) (x4 : Int) (x5 : Int) (x6 : Int) (x7 : Int) (x8 : Int) (s : Sg) {o : ((Int × Sg) ⊕ (Sg))} (hs : La_bridges_b184 x1 r2 x3 x4 x5 x6 x7 x8 s = some o) (hb : ∀ σ : Int × Sg, o = .inl σ → ww C M_L_bridges 11 1 81 nx (Qr) (Qx) nx 1 81 28 [(0, .ref 0), (1, vi x1), (2, .ref r2), (3, vi x3), (4, vi σ.1)] [] (hp nx σ.2)) (he0 : ∀ ρ : Sg, o = .inr ρ → ww C M_L_bridges 11 1 81 nx (Qr) (Qx) nx 1 81 292 [] [] (hp nx ρ)) : ww C M_L_bridges 11 1 81 nx (Qr) (Qx) nx 1 81 184 [(0, .ref 0), (1, vi x1), (2, .ref r2), (3, vi x3), (4, vi x4), (5, vi x5), (6, vi x6), (7, vi x7), (8, vi x8)] [] (hp nx s) := by
  unfold La_bridges_b184 at hs
  refine x_iconst dL_bridges_184 ?_
  exact q_La_bridges_b185 hnx x1 r2 h_r2 x3 x4 x5 x6 x7 x8 0 s hs hb he0
set_option maxRecDepth 100000 in
theorem q_La_bridges_b166 {C : Cx} {nx : Nat} (hnx : 80 ≤ nx) {Qr : Option Value → Hp → Prop} {Qx : String → Hp → Prop}  (x1 : Int) (r2 : Nat) (h_r2 : isTk C nx r2) (x3 : Int) (x4 : Int) (x5 : Int) (x6 : Int) (x7 : Int) (x8 : Int) (s : Sg) {o : ((Int × Sg) ⊕ (Sg))} (hs : La_bridges_b166 x1 r2 x3 x4 x5 x6 x7 x8 s = some o) (hb : ∀ σ : Int × Sg, o = .inl σ → ww C M_L_bridges 11 1 81 nx (Qr) (Qx) nx 1 81 28 [(0, .ref 0), (1, vi x1), (2, .ref r2), (3, vi x3), (4, vi σ.1)] [] (hp nx σ.2)) (he0 : ∀ ρ : Sg, o = .inr ρ → ww C M_L_bridges 11 1 81 nx (Qr) (Qx) nx 1 81 292 [] [] (hp nx ρ)) : ww C M_L_bridges 11 1 81 nx (Qr) (Qx) nx 1 81 166 [(0, .ref 0), (1, vi x1), (2, .ref r2), (3, vi x3), (4, vi x4), (5, vi x5), (6, vi x6), (7, vi x7), (8, vi x8)] [] (hp nx s) := by
  unfold La_bridges_b166 at hs
  refine w_aload_n 2 dL_bridges_166 rfl rfl ?_
  refine w_iload 7 dL_bridges_167 rfl ?_
  refine grd_e hs (fun hg19 hs => ?_)
  refine x_zaldC hg19 (by decide) dL_bridges_169 h_r2.1 h_r2.2 ?_
  refine x_ifne hs dL_bridges_170 rfl (fun hs => ?_) (fun hs => ?_)
  · exact q_La_bridges_b184 hnx x1 r2 h_r2 x3 x4 x5 x6 x7 x8 s hs hb he0
  · refine w_aload_n 2 dL_bridges_173 rfl rfl ?_
    refine w_iload 8 dL_bridges_174 rfl ?_
    refine grd_e hs (fun hg36 hs => ?_)
    refine x_zaldC hg36 (by decide) dL_bridges_176 h_r2.1 h_r2.2 ?_
    refine x_ifne hs dL_bridges_177 rfl (fun hs => ?_) (fun hs => ?_)
    · exact q_La_bridges_b184 hnx x1 r2 h_r2 x3 x4 x5 x6 x7 x8 s hs hb he0
    · refine x_iconst dL_bridges_180 ?_
      refine w_goto dL_bridges_181 rfl ?_
      exact q_La_bridges_b185 hnx x1 r2 h_r2 x3 x4 x5 x6 x7 x8 1 s hs hb he0
set_option maxRecDepth 100000 in
theorem q_La_bridges_t28 {C : Cx} {nx : Nat} (hnx : 80 ≤ nx) {Qr : Option Value → Hp → Prop} {Qx : String → Hp → Prop}  (x1 : Int) (r2 : Nat) (h_r2 : isTk C nx r2) (x3 : Int) (x4 : Int) (s : Sg) {o : ((Int × Sg) ⊕ (Sg))} (hs : La_bridges_t28 x1 r2 x3 x4 s = some o) (hb : ∀ σ : Int × Sg, o = .inl σ → ww C M_L_bridges 11 1 81 nx (Qr) (Qx) nx 1 81 28 [(0, .ref 0), (1, vi x1), (2, .ref r2), (3, vi x3), (4, vi σ.1)] [] (hp nx σ.2)) (he0 : ∀ ρ : Sg, o = .inr ρ → ww C M_L_bridges 11 1 81 nx (Qr) (Qx) nx 1 81 292 [] [] (hp nx ρ)) : ww C M_L_bridges 11 1 81 nx (Qr) (Qx) nx 1 81 28 [(0, .ref 0), (1, vi x1), (2, .ref r2), (3, vi x3), (4, vi x4)] [] (hp nx s) := by
  unfold La_bridges_t28 at hs
  refine w_iload 4 dL_bridges_28 rfl ?_
  refine w_iload_n 3 dL_bridges_30 rfl rfl ?_
  refine x_icmpge hs dL_bridges_31 rfl (fun hs => ?_) (fun hs => ?_)
  · refine w_lv (lv' := []) [] rfl ?_
    cases hs
    exact he0 _ rfl
  · refine w_aload_n 0 dL_bridges_34 rfl rfl ?_
    refine w_iload_n 1 dL_bridges_35 rfl rfl ?_
    refine w_iload 4 dL_bridges_36 rfl ?_
    refine x_iconst dL_bridges_38 ?_
    refine x_V_Tr M_X11_bridge [vi x1, vi x4, vi 0] [] hs rfl dL_bridges_39 (lkL_138 _ rfl) (lt_of hnx (Nat.le_of_ble_eq_true rfl)) rfl rfl (Nat.le_of_ble_eq_true rfl) (Nat.le_of_ble_eq_true rfl) (Nat.le_of_ble_eq_true rfl) (Nat.le_of_ble_eq_true rfl) (c_Hx_bridge hnx x1 x4 0 s) (fun y5 s6 hy5 hs => ?_)
    refine w_istore (lv' := [(5, vi y5), (0, .ref 0), (1, vi x1), (2, .ref r2), (3, vi x3), (4, vi x4)]) dL_bridges_42 (Nat.le_of_ble_eq_true rfl) rfl ?_
    refine w_aload_n 1 dL_bridges_44 rfl rfl ?_
    refine w_iload_n 2 dL_bridges_45 rfl rfl ?_
    refine w_iload 5 dL_bridges_46 rfl ?_
    refine x_iconst dL_bridges_48 ?_
    refine x_V_Tr M_X11_bridge [vi x1, vi x4, vi 1] [] hs rfl dL_bridges_49 (lkL_138 _ rfl) (lt_of hnx (Nat.le_of_ble_eq_true rfl)) rfl rfl (Nat.le_of_ble_eq_true rfl) (Nat.le_of_ble_eq_true rfl) (Nat.le_of_ble_eq_true rfl) (Nat.le_of_ble_eq_true rfl) (c_Hx_bridge hnx x1 x4 1 s6) (fun y7 s8 hy7 hs => ?_)
    refine w_istore (lv' := [(6, vi y7), (5, vi y5), (0, .ref 0), (1, vi x1), (2, .ref r2), (3, vi x3), (4, vi x4)]) dL_bridges_52 (Nat.le_of_ble_eq_true rfl) rfl ?_
    refine w_aload_n 2 dL_bridges_54 rfl rfl ?_
    refine w_iload_n 3 dL_bridges_55 rfl rfl ?_
    refine w_iload 6 dL_bridges_56 rfl ?_
    refine x_iconst dL_bridges_58 ?_
    refine x_V_Tr M_X11_bridge [vi x1, vi x4, vi 2] [] hs rfl dL_bridges_59 (lkL_138 _ rfl) (lt_of hnx (Nat.le_of_ble_eq_true rfl)) rfl rfl (Nat.le_of_ble_eq_true rfl) (Nat.le_of_ble_eq_true rfl) (Nat.le_of_ble_eq_true rfl) (Nat.le_of_ble_eq_true rfl) (c_Hx_bridge hnx x1 x4 2 s8) (fun y9 s10 hy9 hs => ?_)
    refine w_istore (lv' := [(7, vi y9), (6, vi y7), (5, vi y5), (0, .ref 0), (1, vi x1), (2, .ref r2), (3, vi x3), (4, vi x4)]) dL_bridges_62 (Nat.le_of_ble_eq_true rfl) rfl ?_
    refine w_aload_n 3 dL_bridges_64 rfl rfl ?_
    refine w_iload_n 4 dL_bridges_65 rfl rfl ?_
    refine w_iload 7 dL_bridges_66 rfl ?_
    refine x_iconst dL_bridges_68 ?_
    refine x_V_Tr M_X11_bridge [vi x1, vi x4, vi 3] [] hs rfl dL_bridges_69 (lkL_138 _ rfl) (lt_of hnx (Nat.le_of_ble_eq_true rfl)) rfl rfl (Nat.le_of_ble_eq_true rfl) (Nat.le_of_ble_eq_true rfl) (Nat.le_of_ble_eq_true rfl) (Nat.le_of_ble_eq_true rfl) (c_Hx_bridge hnx x1 x4 3 s10) (fun y11 s12 hy11 hs => ?_)
    refine w_istore (lv' := [(8, vi y11), (7, vi y9), (6, vi y7), (5, vi y5), (0, .ref 0), (1, vi x1), (2, .ref r2), (3, vi x3), (4, vi x4)]) dL_bridges_72 (Nat.le_of_ble_eq_true rfl) rfl ?_
    refine w_aload_n 4 dL_bridges_74 rfl rfl ?_
    refine w_iload 3 dL_bridges_75 rfl ?_
    refine x_V_Tr M_X11_cell [vi y5] [] hs rfl dL_bridges_77 (lkL_107 _ rfl) (lt_of hnx (Nat.le_of_ble_eq_true rfl)) rfl rfl (Nat.le_of_ble_eq_true rfl) (Nat.le_of_ble_eq_true rfl) (Nat.le_of_ble_eq_true rfl) (Nat.le_of_ble_eq_true rfl) (c_Hx_cell hnx y5 s12) (fun y13 s14 hy13 hs => ?_)
    refine w_iload_n 5 dL_bridges_80 rfl rfl ?_
    refine x_icmpne hs dL_bridges_81 rfl (fun hs => ?_) (fun hs => ?_)
    · cases hs
    · refine w_aload_n 4 dL_bridges_84 rfl rfl ?_
      refine w_iload 1 dL_bridges_85 rfl ?_
      refine x_V_Tr M_X11_cell [vi y9] [] hs rfl dL_bridges_87 (lkL_107 _ rfl) (lt_of hnx (Nat.le_of_ble_eq_true rfl)) rfl rfl (Nat.le_of_ble_eq_true rfl) (Nat.le_of_ble_eq_true rfl) (Nat.le_of_ble_eq_true rfl) (Nat.le_of_ble_eq_true rfl) (c_Hx_cell hnx y9 s14) (fun y15 s16 hy15 hs => ?_)
      refine x_iconst dL_bridges_90 ?_
      refine x_icmpne hs dL_bridges_91 rfl (fun hs => ?_) (fun hs => ?_)
      · cases hs
      · refine w_aload_n 4 dL_bridges_94 rfl rfl ?_
        refine w_iload 0 dL_bridges_95 rfl ?_
        refine x_V_Tr M_X11_cell [vi y11] [] hs rfl dL_bridges_97 (lkL_107 _ rfl) (lt_of hnx (Nat.le_of_ble_eq_true rfl)) rfl rfl (Nat.le_of_ble_eq_true rfl) (Nat.le_of_ble_eq_true rfl) (Nat.le_of_ble_eq_true rfl) (Nat.le_of_ble_eq_true rfl) (c_Hx_cell hnx y11 s16) (fun y17 s18 hy17 hs => ?_)
        refine x_iconst dL_bridges_100 ?_
        refine x_icmpne hs dL_bridges_101 rfl (fun hs => ?_) (fun hs => ?_)
        · cases hs
        · refine w_iload 1 dL_bridges_104 rfl ?_
          refine w_iload 0 dL_bridges_106 rfl ?_
          refine x_icmplt hs dL_bridges_108 rfl (fun hs => ?_) (fun hs => ?_)
          · refine w_iload 2 dL_bridges_113 rfl ?_
            refine x_iflt hs dL_bridges_115 rfl (fun hs => ?_) (fun hs => ?_)
            · refine w_lv (lv' := [(0, .ref 0), (1, vi x1), (2, .ref r2), (3, vi x3), (4, vi x4), (5, vi y5), (6, vi y7), (7, vi y9), (8, vi y11)]) [4, 5, 6, 7, 8, 3, 2, 1, 0] rfl ?_
              exact q_La_bridges_b166 hnx x1 r2 h_r2 x3 x4 y5 y7 y9 y11 s18 hs hb he0
            · refine w_iload 2 dL_bridges_118 rfl ?_
              refine w_iload 3 dL_bridges_120 rfl ?_
              refine x_icmple hs dL_bridges_122 rfl (fun hs => ?_) (fun hs => ?_)
              · cases hs
              · refine w_aload_n 4 dL_bridges_125 rfl rfl ?_
                refine w_iload 2 dL_bridges_126 rfl ?_
                refine w_iload 3 dL_bridges_128 rfl ?_
                refine x_V_Tr M_X11_isBridge [vi y7, vi y5] [] hs rfl dL_bridges_130 (lkL_142 _ rfl) (lt_of hnx (Nat.le_of_ble_eq_true rfl)) rfl rfl (Nat.le_of_ble_eq_true rfl) (Nat.le_of_ble_eq_true rfl) (Nat.le_of_ble_eq_true rfl) (Nat.le_of_ble_eq_true rfl) (c_Hx_isBridge hnx y7 y5 s18) (fun y37 s38 hy37 hs => ?_)
                refine x_ifeq hs dL_bridges_133 rfl (fun hs => ?_) (fun hs => ?_)
                · cases hs
                · refine w_aload_n 4 dL_bridges_136 rfl rfl ?_
                  refine w_iload 3 dL_bridges_137 rfl ?_
                  refine x_iconst dL_bridges_139 ?_
                  refine x_V_Tr M_X11_group [vi y5, vi 0] [] hs rfl dL_bridges_140 (lkL_109 _ rfl) (lt_of hnx (Nat.le_of_ble_eq_true rfl)) rfl rfl (Nat.le_of_ble_eq_true rfl) (Nat.le_of_ble_eq_true rfl) (Nat.le_of_ble_eq_true rfl) (Nat.le_of_ble_eq_true rfl) (c_Hx_group hnx y5 0 s38) (fun y39 s40 hy39 hs => ?_)
                  refine w_aload_n 4 dL_bridges_143 rfl rfl ?_
                  refine w_iload 2 dL_bridges_144 rfl ?_
                  refine x_iconst dL_bridges_146 ?_
                  refine x_V_Tr M_X11_group [vi y7, vi 0] [vi y39] hs rfl dL_bridges_147 (lkL_109 _ rfl) (lt_of hnx (Nat.le_of_ble_eq_true rfl)) rfl rfl (Nat.le_of_ble_eq_true rfl) (Nat.le_of_ble_eq_true rfl) (Nat.le_of_ble_eq_true rfl) (Nat.le_of_ble_eq_true rfl) (c_Hx_group hnx y7 0 s40) (fun y41 s42 hy41 hs => ?_)
                  refine x_icmpne hs dL_bridges_150 rfl (fun hs => ?_) (fun hs => ?_)
                  · refine w_lv (lv' := [(0, .ref 0), (1, vi x1), (2, .ref r2), (3, vi x3), (4, vi x4), (5, vi y5), (6, vi y7), (7, vi y9), (8, vi y11)]) [4, 5, 6, 7, 8, 3, 2, 1, 0] rfl ?_
                    exact q_La_bridges_b166 hnx x1 r2 h_r2 x3 x4 y5 y7 y9 y11 s42 hs hb he0
                  · refine w_aload_n 4 dL_bridges_153 rfl rfl ?_
                    refine w_iload 3 dL_bridges_154 rfl ?_
                    refine x_iconst dL_bridges_156 ?_
                    refine x_V_Tr M_X11_group [vi y5, vi 1] [] hs rfl dL_bridges_157 (lkL_109 _ rfl) (lt_of hnx (Nat.le_of_ble_eq_true rfl)) rfl rfl (Nat.le_of_ble_eq_true rfl) (Nat.le_of_ble_eq_true rfl) (Nat.le_of_ble_eq_true rfl) (Nat.le_of_ble_eq_true rfl) (c_Hx_group hnx y5 1 s42) (fun y43 s44 hy43 hs => ?_)
                    refine x_iconst dL_bridges_160 ?_
                    refine x_icmpge hs dL_bridges_161 rfl (fun hs => ?_) (fun hs => ?_)
                    · refine w_lv (lv' := [(0, .ref 0), (1, vi x1), (2, .ref r2), (3, vi x3), (4, vi x4), (5, vi y5), (6, vi y7), (7, vi y9), (8, vi y11)]) [4, 5, 6, 7, 8, 3, 2, 1, 0] rfl ?_
                      exact q_La_bridges_b166 hnx x1 r2 h_r2 x3 x4 y5 y7 y9 y11 s44 hs hb he0
                    · cases hs
          · cases hs
set_option maxRecDepth 100000 in
theorem q_La_bridges_l28 {C : Cx} {nx : Nat} (hnx : 80 ≤ nx) (x1 : Int) (r2 : Nat) (h_r2 : isTk C nx r2) (x3 : Int) (x4 : Int) (s : Sg) {o : Int × Sg} (hs : La_bridges_l28 x1 r2 x3 x4 s = some o) : ww C M_L_bridges 11 1 81 nx (QI nx o.2 o.1) (XF) nx 1 81 28 [(0, .ref 0), (1, vi x1), (2, .ref r2), (3, vi x3), (4, vi x4)] [] (hp nx s) := by
  unfold La_bridges_l28 at hs
  refine bnd_e hs (fun s_45 hw hs => ?_)
  have hE : ww C M_L_bridges 11 1 81 nx (QI nx o.2 o.1) (XF) nx 1 81 292 [] [] (hp nx s_45) := by
    refine x_iconst dL_bridges_292 ?_
    cases hs
    exact x_zreturn (Or.inr rfl) dL_bridges_293 rfl rfl (Nat.le_of_ble_eq_true rfl) (Nat.le_of_ble_eq_true rfl) ⟨rfl, rfl⟩
  refine whl_w (P := fun σ => ww C M_L_bridges 11 1 81 nx (QI nx o.2 o.1) (XF) nx 1 81 28 [(0, .ref 0), (1, vi x1), (2, .ref r2), (3, vi x3), (4, vi σ.1)] [] (hp nx σ.2)) (E := fun ρ => ρ = s_45) hw rfl ?_
  intro σ o' hs' hb' he'
  exact q_La_bridges_t28 hnx x1 r2 h_r2 x3 σ.1 σ.2 hs' hb' (fun ρ e => by cases he' _ e; exact hE)
set_option maxRecDepth 100000 in
theorem q_La_bridges {C : Cx} {nx : Nat} (hnx : 80 ≤ nx) (x1 : Int) (r2 : Nat) (h_r2 : isTk C nx r2) (s : Sg) : ∀ o, La_bridges x1 r2 s = some o → ww C M_L_bridges 11 1 81 nx (QI nx o.2 o.1) (XF) nx 1 81 5 [(2, .ref r2), (0, .ref 0), (1, vi x1)] [] (hp nx s) := by
  intro o hs
  unfold La_bridges at hs
  refine w_aload_n 1 dL_bridges_5 rfl rfl ?_
  refine w_iload_n 2 dL_bridges_6 rfl rfl ?_
  refine x_iconst dL_bridges_7 ?_
  refine x_V_Tr M_X11_bridges [vi x1, vi 0] [] hs rfl dL_bridges_8 (lkL_124 _ rfl) (lt_of hnx (Nat.le_of_ble_eq_true rfl)) rfl rfl (Nat.le_of_ble_eq_true rfl) (Nat.le_of_ble_eq_true rfl) (Nat.le_of_ble_eq_true rfl) (Nat.le_of_ble_eq_true rfl) (c_Hx_bridges hnx x1 0 s) (fun y1 s2 hy1 hs => ?_)
  refine w_istore_n (lv' := [(3, vi y1), (2, .ref r2), (0, .ref 0), (1, vi x1)]) dL_bridges_11 rfl (Nat.le_of_ble_eq_true rfl) rfl ?_
  refine w_aload_n 2 dL_bridges_12 rfl rfl ?_
  refine w_iload_n 3 dL_bridges_13 rfl rfl ?_
  refine w_iload_n 0 dL_bridges_14 rfl rfl ?_
  refine x_iconst dL_bridges_15 ?_
  refine x_V_Tr M_X11_bridge [vi x1, vi y1, vi 0] [] hs rfl dL_bridges_16 (lkL_138 _ rfl) (lt_of hnx (Nat.le_of_ble_eq_true rfl)) rfl rfl (Nat.le_of_ble_eq_true rfl) (Nat.le_of_ble_eq_true rfl) (Nat.le_of_ble_eq_true rfl) (Nat.le_of_ble_eq_true rfl) (c_Hx_bridge hnx x1 y1 0 s2) (fun y3 s4 hy3 hs => ?_)
  refine x_iconst dL_bridges_19 ?_
  refine x_icmpeq hs dL_bridges_20 rfl (fun hs => ?_) (fun hs => ?_)
  · refine x_iconst dL_bridges_25 ?_
    refine w_istore (lv' := [(4, vi 0), (3, vi y1), (2, .ref r2), (0, .ref 0), (1, vi x1)]) dL_bridges_26 (Nat.le_of_ble_eq_true rfl) rfl ?_
    refine w_lv (lv' := [(0, .ref 0), (1, vi x1), (2, .ref r2), (3, vi y1), (4, vi 0)]) [3, 4, 2, 1, 0] rfl ?_
    exact q_La_bridges_l28 hnx x1 r2 h_r2 y1 0 s4 hs
  · cases hs
set_option maxRecDepth 100000 in
theorem q_La_ways_b145 {C : Cx} {nx : Nat} (hnx : 80 ≤ nx) {Qr : Option Value → Hp → Prop} {Qx : String → Hp → Prop}  (x1 : Int) (x2 : Int) (x3 : Int) (x4 : Int) (s : Sg) {o : ((Int × Int × Sg) ⊕ ((Sg) ⊕ (Int × Sg)))} (hs : La_ways_b145 x1 x2 x3 x4 s = some o) (hb : ∀ σ : Int × Int × Sg, o = .inl σ → ww C M_L_ways 11 0 0 nx (Qr) (Qx) nx 0 0 11 [(0, .ref 0), (1, vi x1), (2, vi x2), (3, vi σ.1), (4, vi σ.2.1)] [] (hp nx σ.2.2)) (he0 : ∀ ρ : Sg, o = .inr (.inl ρ) → ww C M_L_ways 11 0 0 nx (Qr) (Qx) nx 0 0 128 [] [] (hp nx ρ)) (he1 : ∀ ρ : Int × Sg, o = .inr (.inr ρ) → ww C M_L_ways 11 0 0 nx (Qr) (Qx) nx 0 0 151 [(0, .ref 0), (1, vi x1), (2, vi x2), (3, vi ρ.1)] [] (hp nx ρ.2)) : ww C M_L_ways 11 0 0 nx (Qr) (Qx) nx 0 0 145 [(0, .ref 0), (1, vi x1), (2, vi x2), (3, vi x3), (4, vi x4)] [] (hp nx s) := by
  unfold La_ways_b145 at hs
  refine x_iinc (lv' := [(4, vi (x4 + 1)), (0, .ref 0), (1, vi x1), (2, vi x2), (3, vi x3)]) 4 dL_ways_145 rfl (Nat.le_of_ble_eq_true rfl) rfl ?_
  refine w_goto dL_ways_148 rfl ?_
  refine w_lv (lv' := [(0, .ref 0), (1, vi x1), (2, vi x2), (3, vi x3), (4, vi (x4 + 1))]) [1, 2, 3, 4, 0] rfl ?_
  cases hs
  exact hb _ rfl
set_option maxRecDepth 100000 in
theorem q_La_ways_b97 {C : Cx} {nx : Nat} (hnx : 80 ≤ nx) {Qr : Option Value → Hp → Prop} {Qx : String → Hp → Prop}  (x1 : Int) (x2 : Int) (x4 : Int) (t0 : Int) (t1 : Int) (s : Sg) {o : ((Int × Int × Sg) ⊕ ((Sg) ⊕ (Int × Sg)))} (hs : La_ways_b97 x1 x2 x4 t0 t1 s = some o) (hb : ∀ σ : Int × Int × Sg, o = .inl σ → ww C M_L_ways 11 0 0 nx (Qr) (Qx) nx 0 0 11 [(0, .ref 0), (1, vi x1), (2, vi x2), (3, vi σ.1), (4, vi σ.2.1)] [] (hp nx σ.2.2)) (he0 : ∀ ρ : Sg, o = .inr (.inl ρ) → ww C M_L_ways 11 0 0 nx (Qr) (Qx) nx 0 0 128 [] [] (hp nx ρ)) (he1 : ∀ ρ : Int × Sg, o = .inr (.inr ρ) → ww C M_L_ways 11 0 0 nx (Qr) (Qx) nx 0 0 151 [(0, .ref 0), (1, vi x1), (2, vi x2), (3, vi ρ.1)] [] (hp nx ρ.2)) : ww C M_L_ways 11 0 0 nx (Qr) (Qx) nx 0 0 97 [(0, .ref 0), (1, vi x1), (2, vi x2), (4, vi x4)] [vi t1, vi t0] (hp nx s) := by
  unfold La_ways_b97 at hs
  refine x_iadd dL_ways_97 ?_
  refine x_istore_n (fun x3_13 => [(3, vi x3_13), (0, .ref 0), (1, vi x1), (2, vi x2), (4, vi x4)]) hs dL_ways_98 rfl (Nat.le_of_ble_eq_true rfl) (fun _ => rfl) (fun x3_13 hs => ?_)
  refine w_aload_n 1 dL_ways_99 rfl rfl ?_
  refine w_iload_n 2 dL_ways_100 rfl rfl ?_
  refine w_iload 4 dL_ways_101 rfl ?_
  refine x_bipush dL_ways_103 (by decide) ?_
  refine x_V_Tr M_X11_potential [vi x1, vi x4, vi 9] [] hs rfl dL_ways_105 (lkL_152 _ rfl) (lt_of hnx (Nat.le_of_ble_eq_true rfl)) rfl rfl (Nat.le_of_ble_eq_true rfl) (Nat.le_of_ble_eq_true rfl) (Nat.le_of_ble_eq_true rfl) (Nat.le_of_ble_eq_true rfl) (c_Hx_potential hnx x1 x4 9 s) (fun y14 s15 hy14 hs => ?_)
  refine w_istore (lv' := [(6, vi y14), (3, vi x3_13), (0, .ref 0), (1, vi x1), (2, vi x2), (4, vi x4)]) dL_ways_108 (Nat.le_of_ble_eq_true rfl) rfl ?_
  refine w_aload_n 2 dL_ways_110 rfl rfl ?_
  refine w_iload 5 dL_ways_111 rfl ?_
  refine x_V_Tr M_X11_cell [vi x4] [] hs rfl dL_ways_113 (lkL_107 _ rfl) (lt_of hnx (Nat.le_of_ble_eq_true rfl)) rfl rfl (Nat.le_of_ble_eq_true rfl) (Nat.le_of_ble_eq_true rfl) (Nat.le_of_ble_eq_true rfl) (Nat.le_of_ble_eq_true rfl) (c_Hx_cell hnx x4 s15) (fun y16 s17 hy16 hs => ?_)
  refine x_iconst dL_ways_116 ?_
  refine w_iload_n 3 dL_ways_117 rfl rfl ?_
  refine x_isub dL_ways_118 ?_
  refine x_icmpne hs dL_ways_119 rfl (fun hs => ?_) (fun hs => ?_)
  · refine w_iload 0 dL_ways_131 rfl ?_
    refine x_iflt hs dL_ways_133 rfl (fun hs => ?_) (fun hs => ?_)
    · cases hs
    · refine w_iload 0 dL_ways_136 rfl ?_
      refine x_ldc 1000000 dL_ways_138 (csL_155 rfl) ?_
      refine x_icmple hs dL_ways_140 rfl (fun hs => ?_) (fun hs => ?_)
      · refine w_lv (lv' := [(0, .ref 0), (1, vi x1), (2, vi x2), (3, vi x3_13), (4, vi x4)]) [2, 3, 4, 1, 5] rfl ?_
        exact q_La_ways_b145 hnx x1 x2 x3_13 x4 s17 hs hb he0 he1
      · cases hs
  · refine w_iload 0 dL_ways_122 rfl ?_
    refine x_iconst dL_ways_124 ?_
    refine x_icmpeq hs dL_ways_125 rfl (fun hs => ?_) (fun hs => ?_)
    · refine w_lv (lv' := [(0, .ref 0), (1, vi x1), (2, vi x2), (3, vi x3_13), (4, vi x4)]) [2, 3, 4, 1, 5] rfl ?_
      exact q_La_ways_b145 hnx x1 x2 x3_13 x4 s17 hs hb he0 he1
    · refine w_lv (lv' := []) [] rfl ?_
      cases hs
      exact he0 _ rfl
set_option maxRecDepth 100000 in
theorem q_La_ways_b96 {C : Cx} {nx : Nat} (hnx : 80 ≤ nx) {Qr : Option Value → Hp → Prop} {Qx : String → Hp → Prop}  (x1 : Int) (x2 : Int) (x4 : Int) (t0 : Int) (s : Sg) {o : ((Int × Int × Sg) ⊕ ((Sg) ⊕ (Int × Sg)))} (hs : La_ways_b96 x1 x2 x4 t0 s = some o) (hb : ∀ σ : Int × Int × Sg, o = .inl σ → ww C M_L_ways 11 0 0 nx (Qr) (Qx) nx 0 0 11 [(0, .ref 0), (1, vi x1), (2, vi x2), (3, vi σ.1), (4, vi σ.2.1)] [] (hp nx σ.2.2)) (he0 : ∀ ρ : Sg, o = .inr (.inl ρ) → ww C M_L_ways 11 0 0 nx (Qr) (Qx) nx 0 0 128 [] [] (hp nx ρ)) (he1 : ∀ ρ : Int × Sg, o = .inr (.inr ρ) → ww C M_L_ways 11 0 0 nx (Qr) (Qx) nx 0 0 151 [(0, .ref 0), (1, vi x1), (2, vi x2), (3, vi ρ.1)] [] (hp nx ρ.2)) : ww C M_L_ways 11 0 0 nx (Qr) (Qx) nx 0 0 96 [(0, .ref 0), (1, vi x1), (2, vi x2), (4, vi x4)] [vi t0] (hp nx s) := by
  unfold La_ways_b96 at hs
  refine x_iconst dL_ways_96 ?_
  exact q_La_ways_b97 hnx x1 x2 x4 t0 0 s hs hb he0 he1
set_option maxRecDepth 100000 in
theorem q_La_ways_b71 {C : Cx} {nx : Nat} (hnx : 80 ≤ nx) {Qr : Option Value → Hp → Prop} {Qx : String → Hp → Prop}  (x1 : Int) (x2 : Int) (x3 : Int) (x4 : Int) (x5 : Int) (s : Sg) {o : ((Int × Int × Sg) ⊕ ((Sg) ⊕ (Int × Sg)))} (hs : La_ways_b71 x1 x2 x3 x4 x5 s = some o) (hb : ∀ σ : Int × Int × Sg, o = .inl σ → ww C M_L_ways 11 0 0 nx (Qr) (Qx) nx 0 0 11 [(0, .ref 0), (1, vi x1), (2, vi x2), (3, vi σ.1), (4, vi σ.2.1)] [] (hp nx σ.2.2)) (he0 : ∀ ρ : Sg, o = .inr (.inl ρ) → ww C M_L_ways 11 0 0 nx (Qr) (Qx) nx 0 0 128 [] [] (hp nx ρ)) (he1 : ∀ ρ : Int × Sg, o = .inr (.inr ρ) → ww C M_L_ways 11 0 0 nx (Qr) (Qx) nx 0 0 151 [(0, .ref 0), (1, vi x1), (2, vi x2), (3, vi ρ.1)] [] (hp nx ρ.2)) : ww C M_L_ways 11 0 0 nx (Qr) (Qx) nx 0 0 71 [(0, .ref 0), (1, vi x1), (2, vi x2), (3, vi x3), (4, vi x4), (5, vi x5)] [] (hp nx s) := by
  unfold La_ways_b71 at hs
  refine w_iload_n 3 dL_ways_71 rfl rfl ?_
  refine w_aload_n 0 dL_ways_72 rfl rfl ?_
  refine w_iload 4 dL_ways_73 rfl ?_
  refine x_V_Tr M_X11_cell [vi x4] [vi x3] hs rfl dL_ways_75 (lkL_107 _ rfl) (lt_of hnx (Nat.le_of_ble_eq_true rfl)) rfl rfl (Nat.le_of_ble_eq_true rfl) (Nat.le_of_ble_eq_true rfl) (Nat.le_of_ble_eq_true rfl) (Nat.le_of_ble_eq_true rfl) (c_Hx_cell hnx x4 s) (fun y11 s12 hy11 hs => ?_)
  refine x_iconst dL_ways_78 ?_
  refine x_icmpne hs dL_ways_79 rfl (fun hs => ?_) (fun hs => ?_)
  · refine w_lv (lv' := [(0, .ref 0), (1, vi x1), (2, vi x2), (4, vi x4)]) [0, 1, 2, 4] rfl ?_
    exact q_La_ways_b96 hnx x1 x2 x4 x3 s12 hs hb he0 he1
  · refine w_iload_n 2 dL_ways_82 rfl rfl ?_
    refine x_iflt hs dL_ways_83 rfl (fun hs => ?_) (fun hs => ?_)
    · refine w_lv (lv' := [(0, .ref 0), (1, vi x1), (2, vi x2), (4, vi x4)]) [0, 1, 2, 4] rfl ?_
      exact q_La_ways_b96 hnx x1 x2 x4 x3 s12 hs hb he0 he1
    · refine w_iload 5 dL_ways_86 rfl ?_
      refine w_iload_n 2 dL_ways_88 rfl rfl ?_
      refine x_icmpne hs dL_ways_89 rfl (fun hs => ?_) (fun hs => ?_)
      · refine w_lv (lv' := [(0, .ref 0), (1, vi x1), (2, vi x2), (4, vi x4)]) [0, 1, 2, 4] rfl ?_
        exact q_La_ways_b96 hnx x1 x2 x4 x3 s12 hs hb he0 he1
      · refine x_iconst dL_ways_92 ?_
        refine w_goto dL_ways_93 rfl ?_
        refine w_lv (lv' := [(0, .ref 0), (1, vi x1), (2, vi x2), (4, vi x4)]) [0, 1, 2, 4] rfl ?_
        exact q_La_ways_b97 hnx x1 x2 x4 x3 1 s12 hs hb he0 he1
set_option maxRecDepth 100000 in
theorem q_La_ways_b51 {C : Cx} {nx : Nat} (hnx : 80 ≤ nx) {Qr : Option Value → Hp → Prop} {Qx : String → Hp → Prop}  (x1 : Int) (x2 : Int) (x3 : Int) (x4 : Int) (x5 : Int) (s : Sg) {o : ((Int × Int × Sg) ⊕ ((Sg) ⊕ (Int × Sg)))} (hs : La_ways_b51 x1 x2 x3 x4 x5 s = some o) (hb : ∀ σ : Int × Int × Sg, o = .inl σ → ww C M_L_ways 11 0 0 nx (Qr) (Qx) nx 0 0 11 [(0, .ref 0), (1, vi x1), (2, vi x2), (3, vi σ.1), (4, vi σ.2.1)] [] (hp nx σ.2.2)) (he0 : ∀ ρ : Sg, o = .inr (.inl ρ) → ww C M_L_ways 11 0 0 nx (Qr) (Qx) nx 0 0 128 [] [] (hp nx ρ)) (he1 : ∀ ρ : Int × Sg, o = .inr (.inr ρ) → ww C M_L_ways 11 0 0 nx (Qr) (Qx) nx 0 0 151 [(0, .ref 0), (1, vi x1), (2, vi x2), (3, vi ρ.1)] [] (hp nx ρ.2)) : ww C M_L_ways 11 0 0 nx (Qr) (Qx) nx 0 0 51 [(0, .ref 0), (1, vi x1), (2, vi x2), (3, vi x3), (4, vi x4), (5, vi x5)] [] (hp nx s) := by
  unfold La_ways_b51 at hs
  refine w_aload_n 0 dL_ways_51 rfl rfl ?_
  refine w_iload 4 dL_ways_52 rfl ?_
  refine x_V_Tr M_X11_cell [vi x4] [] hs rfl dL_ways_54 (lkL_107 _ rfl) (lt_of hnx (Nat.le_of_ble_eq_true rfl)) rfl rfl (Nat.le_of_ble_eq_true rfl) (Nat.le_of_ble_eq_true rfl) (Nat.le_of_ble_eq_true rfl) (Nat.le_of_ble_eq_true rfl) (c_Hx_cell hnx x4 s) (fun y9 s10 hy9 hs => ?_)
  refine x_iconst dL_ways_57 ?_
  refine w_iload_n 1 dL_ways_58 rfl rfl ?_
  refine x_isub dL_ways_59 ?_
  refine x_icmpne hs dL_ways_60 rfl (fun hs => ?_) (fun hs => ?_)
  · exact q_La_ways_b71 hnx x1 x2 x3 x4 x5 s10 hs hb he0 he1
  · refine w_iload 5 dL_ways_63 rfl ?_
    refine x_iconst dL_ways_65 ?_
    refine x_icmpeq hs dL_ways_66 rfl (fun hs => ?_) (fun hs => ?_)
    · exact q_La_ways_b71 hnx x1 x2 x3 x4 x5 s10 hs hb he0 he1
    · cases hs
set_option maxRecDepth 100000 in
theorem q_La_ways_t11 {C : Cx} {nx : Nat} (hnx : 80 ≤ nx) {Qr : Option Value → Hp → Prop} {Qx : String → Hp → Prop}  (x1 : Int) (x2 : Int) (x3 : Int) (x4 : Int) (s : Sg) {o : ((Int × Int × Sg) ⊕ ((Sg) ⊕ (Int × Sg)))} (hs : La_ways_t11 x1 x2 x3 x4 s = some o) (hb : ∀ σ : Int × Int × Sg, o = .inl σ → ww C M_L_ways 11 0 0 nx (Qr) (Qx) nx 0 0 11 [(0, .ref 0), (1, vi x1), (2, vi x2), (3, vi σ.1), (4, vi σ.2.1)] [] (hp nx σ.2.2)) (he0 : ∀ ρ : Sg, o = .inr (.inl ρ) → ww C M_L_ways 11 0 0 nx (Qr) (Qx) nx 0 0 128 [] [] (hp nx ρ)) (he1 : ∀ ρ : Int × Sg, o = .inr (.inr ρ) → ww C M_L_ways 11 0 0 nx (Qr) (Qx) nx 0 0 151 [(0, .ref 0), (1, vi x1), (2, vi x2), (3, vi ρ.1)] [] (hp nx ρ.2)) : ww C M_L_ways 11 0 0 nx (Qr) (Qx) nx 0 0 11 [(0, .ref 0), (1, vi x1), (2, vi x2), (3, vi x3), (4, vi x4)] [] (hp nx s) := by
  unfold La_ways_t11 at hs
  refine w_iload 4 dL_ways_11 rfl ?_
  refine w_aload_n 0 dL_ways_13 rfl rfl ?_
  refine x_iconst dL_ways_14 ?_
  refine x_V_Tr M_X11_size [vi 0] [vi x4] hs rfl dL_ways_15 (lkL_74 _ rfl) (lt_of hnx (Nat.le_of_ble_eq_true rfl)) rfl rfl (Nat.le_of_ble_eq_true rfl) (Nat.le_of_ble_eq_true rfl) (Nat.le_of_ble_eq_true rfl) (Nat.le_of_ble_eq_true rfl) (c_Hx_size hnx 0 s) (fun y3 s4 hy3 hs => ?_)
  refine w_aload_n 0 dL_ways_18 rfl rfl ?_
  refine x_iconst dL_ways_19 ?_
  refine x_V_Tr M_X11_size [vi 0] [vi y3, vi x4] hs rfl dL_ways_20 (lkL_74 _ rfl) (lt_of hnx (Nat.le_of_ble_eq_true rfl)) rfl rfl (Nat.le_of_ble_eq_true rfl) (Nat.le_of_ble_eq_true rfl) (Nat.le_of_ble_eq_true rfl) (Nat.le_of_ble_eq_true rfl) (c_Hx_size hnx 0 s4) (fun y5 s6 hy5 hs => ?_)
  refine x_imul dL_ways_23 ?_
  refine x_icmpge hs dL_ways_24 rfl (fun hs => ?_) (fun hs => ?_)
  · refine w_lv (lv' := [(0, .ref 0), (1, vi x1), (2, vi x2), (3, vi x3)]) [0, 1, 2, 3] rfl ?_
    cases hs
    exact he1 _ rfl
  · refine w_aload_n 0 dL_ways_27 rfl rfl ?_
    refine w_iload_n 1 dL_ways_28 rfl rfl ?_
    refine w_iload 4 dL_ways_29 rfl ?_
    refine x_V_Tr M_X11_through [vi x1, vi x4] [] hs rfl dL_ways_31 (lkL_149 _ rfl) (lt_of hnx (Nat.le_of_ble_eq_true rfl)) rfl rfl (Nat.le_of_ble_eq_true rfl) (Nat.le_of_ble_eq_true rfl) (Nat.le_of_ble_eq_true rfl) (Nat.le_of_ble_eq_true rfl) (c_Hx_through hnx x1 x4 s6) (fun y7 s8 hy7 hs => ?_)
    refine w_istore (lv' := [(5, vi y7), (0, .ref 0), (1, vi x1), (2, vi x2), (3, vi x3), (4, vi x4)]) dL_ways_34 (Nat.le_of_ble_eq_true rfl) rfl ?_
    refine w_iload 0 dL_ways_36 rfl ?_
    refine x_iflt hs dL_ways_38 rfl (fun hs => ?_) (fun hs => ?_)
    · refine w_lv (lv' := [(0, .ref 0), (1, vi x1), (2, vi x2), (3, vi x3), (4, vi x4), (5, vi y7)]) [1, 2, 3, 4, 5, 0] rfl ?_
      exact q_La_ways_b51 hnx x1 x2 x3 x4 y7 s8 hs hb he0 he1
    · refine w_iload_n 3 dL_ways_41 rfl rfl ?_
      refine x_iflt hs dL_ways_42 rfl (fun hs => ?_) (fun hs => ?_)
      · cases hs
      · refine w_iload 0 dL_ways_45 rfl ?_
        refine w_iload_n 3 dL_ways_47 rfl rfl ?_
        refine x_icmplt hs dL_ways_48 rfl (fun hs => ?_) (fun hs => ?_)
        · cases hs
        · refine w_lv (lv' := [(0, .ref 0), (1, vi x1), (2, vi x2), (3, vi x3), (4, vi x4), (5, vi y7)]) [1, 2, 3, 4, 5, 0] rfl ?_
          exact q_La_ways_b51 hnx x1 x2 x3 x4 y7 s8 hs hb he0 he1
set_option maxRecDepth 100000 in
theorem q_La_ways_b174 {C : Cx} {nx : Nat} (hnx : 80 ≤ nx)  (s : Sg) {o : Int × Sg} (hs : La_ways_b174  s = some o) : ww C M_L_ways 11 0 0 nx (QI nx o.2 o.1) (XF) nx 0 0 174 [] [] (hp nx s) := by
  unfold La_ways_b174 at hs
  refine x_iconst dL_ways_174 ?_
  refine w_goto dL_ways_175 rfl ?_
  cases hs
  exact x_zreturn (Or.inr rfl) dL_ways_179 rfl rfl (Nat.le_of_ble_eq_true rfl) (Nat.le_of_ble_eq_true rfl) ⟨rfl, rfl⟩
set_option maxRecDepth 100000 in
theorem q_La_ways_l11 {C : Cx} {nx : Nat} (hnx : 80 ≤ nx) (x1 : Int) (x2 : Int) (x3 : Int) (x4 : Int) (s : Sg) {o : Int × Sg} (hs : La_ways_l11 x1 x2 x3 x4 s = some o) : ww C M_L_ways 11 0 0 nx (QI nx o.2 o.1) (XF) nx 0 0 11 [(0, .ref 0), (1, vi x1), (2, vi x2), (3, vi x3), (4, vi x4)] [] (hp nx s) := by
  unfold La_ways_l11 at hs
  refine bnd_e hs (fun ρ hw hs => ?_)
  rcases ρ with s_18 | ⟨x3_19, s_20⟩
  · have hE : ww C M_L_ways 11 0 0 nx (QI nx o.2 o.1) (XF) nx 0 0 128 [] [] (hp nx s_18) := by
      refine w_goto dL_ways_128 rfl ?_
      cases hs
    refine whl_w (P := fun σ => ww C M_L_ways 11 0 0 nx (QI nx o.2 o.1) (XF) nx 0 0 11 [(0, .ref 0), (1, vi x1), (2, vi x2), (3, vi σ.1), (4, vi σ.2.1)] [] (hp nx σ.2.2)) (E := fun ρ => ρ = (.inl s_18)) hw rfl ?_
    intro σ o' hs' hb' he'
    exact q_La_ways_t11 hnx x1 x2 σ.1 σ.2.1 σ.2.2 hs' hb' (fun ρ e => by cases he' _ e; exact hE) (fun ρ e => by cases he' _ e)
  · have hE : ww C M_L_ways 11 0 0 nx (QI nx o.2 o.1) (XF) nx 0 0 151 [(0, .ref 0), (1, vi x1), (2, vi x2), (3, vi x3_19)] [] (hp nx s_20) := by
      refine w_aload_n 0 dL_ways_151 rfl rfl ?_
      refine w_iload_n 1 dL_ways_152 rfl rfl ?_
      refine x_V_Tr M_X11_useful [vi x1] [] hs rfl dL_ways_153 (lkL_156 _ rfl) (lt_of hnx (Nat.le_of_ble_eq_true rfl)) rfl rfl (Nat.le_of_ble_eq_true rfl) (Nat.le_of_ble_eq_true rfl) (Nat.le_of_ble_eq_true rfl) (Nat.le_of_ble_eq_true rfl) (c_Hx_useful hnx x1 s_20) (fun y21 s22 hy21 hs => ?_)
      refine w_iload_n 3 dL_ways_156 rfl rfl ?_
      refine x_icmpne hs dL_ways_157 rfl (fun hs => ?_) (fun hs => ?_)
      · cases hs
      · refine w_iload_n 2 dL_ways_160 rfl rfl ?_
        refine x_ifge hs dL_ways_161 rfl (fun hs => ?_) (fun hs => ?_)
        · refine w_lv (lv' := []) [] rfl ?_
          exact q_La_ways_b174 hnx  s22 hs
        · refine w_aload_n 0 dL_ways_164 rfl rfl ?_
          refine x_iconst dL_ways_165 ?_
          refine w_iload_n 1 dL_ways_166 rfl rfl ?_
          refine x_isub dL_ways_167 ?_
          refine x_V_Tr M_X11_distance [vi (1 - x1)] [] hs rfl dL_ways_168 (lkL_132 _ rfl) (lt_of hnx (Nat.le_of_ble_eq_true rfl)) rfl rfl (Nat.le_of_ble_eq_true rfl) (Nat.le_of_ble_eq_true rfl) (Nat.le_of_ble_eq_true rfl) (Nat.le_of_ble_eq_true rfl) (c_Hx_distance hnx (1 - x1) s22) (fun y23 s24 hy23 hs => ?_)
          refine x_iflt hs dL_ways_171 rfl (fun hs => ?_) (fun hs => ?_)
          · cases hs
          · refine w_lv (lv' := []) [] rfl ?_
            exact q_La_ways_b174 hnx  s24 hs
    refine whl_w (P := fun σ => ww C M_L_ways 11 0 0 nx (QI nx o.2 o.1) (XF) nx 0 0 11 [(0, .ref 0), (1, vi x1), (2, vi x2), (3, vi σ.1), (4, vi σ.2.1)] [] (hp nx σ.2.2)) (E := fun ρ => ρ = (.inr (x3_19, s_20))) hw rfl ?_
    intro σ o' hs' hb' he'
    exact q_La_ways_t11 hnx x1 x2 σ.1 σ.2.1 σ.2.2 hs' hb' (fun ρ e => by cases he' _ e) (fun ρ e => by cases he' _ e; exact hE)
set_option maxRecDepth 100000 in
theorem c_La_ways {C : Cx} {nx : Nat} (hnx : 80 ≤ nx) (x1 : Int) (s : Sg) : ∀ o, La_ways x1 s = some o → mm C M_L_ways 11 0 0 nx nx [.ref 0, vi x1] (hp nx s) (QI nx o.2 o.1) (XF) := by
  intro o hs
  unfold La_ways at hs
  refine mm_of rfl rfl (Nat.le_of_ble_eq_true rfl) ?_
  show ww C M_L_ways 11 0 0 nx (QI nx o.2 o.1) (XF) nx 0 0 0 [(0, .ref 0), (1, vi x1)] [] (hp nx s)
  refine w_aload_n 0 dL_ways_0 rfl rfl ?_
  refine w_iload_n 1 dL_ways_1 rfl rfl ?_
  refine x_V_Tr M_X11_distance [vi x1] [] hs rfl dL_ways_2 (lkL_132 _ rfl) (lt_of hnx (Nat.le_of_ble_eq_true rfl)) rfl rfl (Nat.le_of_ble_eq_true rfl) (Nat.le_of_ble_eq_true rfl) (Nat.le_of_ble_eq_true rfl) (Nat.le_of_ble_eq_true rfl) (c_Hx_distance hnx x1 s) (fun y1 s2 hy1 hs => ?_)
  refine w_istore_n (lv' := [(2, vi y1), (0, .ref 0), (1, vi x1)]) dL_ways_5 rfl (Nat.le_of_ble_eq_true rfl) rfl ?_
  refine x_iconst dL_ways_6 ?_
  refine w_istore_n (lv' := [(3, vi 0), (2, vi y1), (0, .ref 0), (1, vi x1)]) dL_ways_7 rfl (Nat.le_of_ble_eq_true rfl) rfl ?_
  refine x_iconst dL_ways_8 ?_
  refine w_istore (lv' := [(4, vi 0), (3, vi 0), (2, vi y1), (0, .ref 0), (1, vi x1)]) dL_ways_9 (Nat.le_of_ble_eq_true rfl) rfl ?_
  refine w_lv (lv' := [(0, .ref 0), (1, vi x1), (2, vi y1), (3, vi 0), (4, vi 0)]) [3, 4, 2, 1, 0] rfl ?_
  exact q_La_ways_l11 hnx x1 y1 0 0 s2 hs
set_option maxRecDepth 100000 in
theorem q_La_threats_b103 {C : Cx} {nx : Nat} (hnx : 80 ≤ nx) {Qr : Option Value → Hp → Prop} {Qx : String → Hp → Prop}  (x1 : Int) (x2 : Int) (x3 : Int) (x4 : Int) (t0 : Int) (t1 : Int) (s : Sg) {o : ((Int × Sg) ⊕ (Sg))} (hs : La_threats_b103 x1 x2 x3 x4 t0 t1 s = some o) (hb : ∀ σ : Int × Sg, o = .inl σ → ww C M_L_threats 11 0 0 nx (Qr) (Qx) nx 0 0 72 [(0, .ref 0), (1, vi x1), (2, vi x2), (3, vi σ.1)] [] (hp nx σ.2)) (he0 : ∀ ρ : Sg, o = .inr ρ → ww C M_L_threats 11 0 0 nx (Qr) (Qx) nx 0 0 139 [] [] (hp nx ρ)) : ww C M_L_threats 11 0 0 nx (Qr) (Qx) nx 0 0 103 [(0, .ref 0), (1, vi x1), (2, vi x2), (3, vi x3), (4, vi x4)] [vi t1, vi t0] (hp nx s) := by
  unfold La_threats_b103 at hs
  refine x_icmple hs dL_threats_103 rfl (fun hs => ?_) (fun hs => ?_)
  · cases hs
  · refine w_aload_n 0 dL_threats_106 rfl rfl ?_
    refine w_iload 4 dL_threats_107 rfl ?_
    refine w_iload_n 1 dL_threats_109 rfl rfl ?_
    refine x_V_Tr M_X11_put [vi x4, vi x1] [] hs rfl dL_threats_110 (lkL_80 _ rfl) (lt_of hnx (Nat.le_of_ble_eq_true rfl)) rfl rfl (Nat.le_of_ble_eq_true rfl) (Nat.le_of_ble_eq_true rfl) (Nat.le_of_ble_eq_true rfl) (Nat.le_of_ble_eq_true rfl) (c_Hx_put hnx x4 x1 s) (fun y15 s16 hy15 hs => ?_)
    refine x_iconst dL_threats_113 ?_
    refine x_icmpne hs dL_threats_114 rfl (fun hs => ?_) (fun hs => ?_)
    · cases hs
    · refine w_aload_n 0 dL_threats_117 rfl rfl ?_
      refine w_iload_n 1 dL_threats_118 rfl rfl ?_
      refine x_V_Tr M_X11_distance [vi x1] [] hs rfl dL_threats_119 (lkL_132 _ rfl) (lt_of hnx (Nat.le_of_ble_eq_true rfl)) rfl rfl (Nat.le_of_ble_eq_true rfl) (Nat.le_of_ble_eq_true rfl) (Nat.le_of_ble_eq_true rfl) (Nat.le_of_ble_eq_true rfl) (c_Hx_distance hnx x1 s16) (fun y17 s18 hy17 hs => ?_)
      refine x_ifeq hs dL_threats_122 rfl (fun hs => ?_) (fun hs => ?_)
      · refine w_aload_n 0 dL_threats_127 rfl rfl ?_
        refine x_iconst dL_threats_128 ?_
        refine x_V_Tr M_X11_restoreSnapshot [vi 0] [] hs rfl dL_threats_129 (lkL_168 _ rfl) (lt_of hnx (Nat.le_of_ble_eq_true rfl)) rfl rfl (Nat.le_of_ble_eq_true rfl) (Nat.le_of_ble_eq_true rfl) (Nat.le_of_ble_eq_true rfl) (Nat.le_of_ble_eq_true rfl) (c_Hx_restoreSnapshot hnx 0 s18) (fun y19 s20 hy19 hs => ?_)
        refine w_pop dL_threats_132 rfl ?_
        refine x_iinc (lv' := [(3, vi (x3 + 1)), (0, .ref 0), (1, vi x1), (2, vi x2), (4, vi x4)]) 3 dL_threats_133 rfl (Nat.le_of_ble_eq_true rfl) rfl ?_
        refine w_goto dL_threats_136 rfl ?_
        refine w_lv (lv' := [(0, .ref 0), (1, vi x1), (2, vi x2), (3, vi (x3 + 1))]) [1, 2, 3, 0] rfl ?_
        cases hs
        exact hb _ rfl
      · cases hs
set_option maxRecDepth 100000 in
theorem q_La_threats_t72 {C : Cx} {nx : Nat} (hnx : 80 ≤ nx) {Qr : Option Value → Hp → Prop} {Qx : String → Hp → Prop}  (x1 : Int) (x2 : Int) (x3 : Int) (s : Sg) {o : ((Int × Sg) ⊕ (Sg))} (hs : La_threats_t72 x1 x2 x3 s = some o) (hb : ∀ σ : Int × Sg, o = .inl σ → ww C M_L_threats 11 0 0 nx (Qr) (Qx) nx 0 0 72 [(0, .ref 0), (1, vi x1), (2, vi x2), (3, vi σ.1)] [] (hp nx σ.2)) (he0 : ∀ ρ : Sg, o = .inr ρ → ww C M_L_threats 11 0 0 nx (Qr) (Qx) nx 0 0 139 [] [] (hp nx ρ)) : ww C M_L_threats 11 0 0 nx (Qr) (Qx) nx 0 0 72 [(0, .ref 0), (1, vi x1), (2, vi x2), (3, vi x3)] [] (hp nx s) := by
  unfold La_threats_t72 at hs
  refine w_iload_n 3 dL_threats_72 rfl rfl ?_
  refine w_iload_n 2 dL_threats_73 rfl rfl ?_
  refine x_icmpge hs dL_threats_74 rfl (fun hs => ?_) (fun hs => ?_)
  · refine w_lv (lv' := []) [] rfl ?_
    cases hs
    exact he0 _ rfl
  · refine w_aload_n 0 dL_threats_77 rfl rfl ?_
    refine w_iload_n 1 dL_threats_78 rfl rfl ?_
    refine w_iload_n 3 dL_threats_79 rfl rfl ?_
    refine x_V_Tr M_X11_threat [vi x1, vi x3] [] hs rfl dL_threats_80 (lkL_162 _ rfl) (lt_of hnx (Nat.le_of_ble_eq_true rfl)) rfl rfl (Nat.le_of_ble_eq_true rfl) (Nat.le_of_ble_eq_true rfl) (Nat.le_of_ble_eq_true rfl) (Nat.le_of_ble_eq_true rfl) (c_Hx_threat hnx x1 x3 s) (fun y11 s12 hy11 hs => ?_)
    refine w_istore (lv' := [(4, vi y11), (0, .ref 0), (1, vi x1), (2, vi x2), (3, vi x3)]) dL_threats_83 (Nat.le_of_ble_eq_true rfl) rfl ?_
    refine w_iload 0 dL_threats_85 rfl ?_
    refine w_iload_n 4 dL_threats_87 rfl rfl ?_
    refine x_ifne hs dL_threats_88 rfl (fun hs => ?_) (fun hs => ?_)
    · refine w_aload_n 1 dL_threats_95 rfl rfl ?_
      refine w_iload_n 2 dL_threats_96 rfl rfl ?_
      refine w_iload_n 4 dL_threats_97 rfl rfl ?_
      refine x_iconst dL_threats_98 ?_
      refine x_isub dL_threats_99 ?_
      refine x_V_Tr M_X11_threat [vi x1, vi (x3 - 1)] [vi y11] hs rfl dL_threats_100 (lkL_162 _ rfl) (lt_of hnx (Nat.le_of_ble_eq_true rfl)) rfl rfl (Nat.le_of_ble_eq_true rfl) (Nat.le_of_ble_eq_true rfl) (Nat.le_of_ble_eq_true rfl) (Nat.le_of_ble_eq_true rfl) (c_Hx_threat hnx x1 (x3 - 1) s12) (fun y13 s14 hy13 hs => ?_)
      refine w_lv (lv' := [(0, .ref 0), (1, vi x1), (2, vi x2), (3, vi x3), (4, vi y11)]) [1, 2, 3, 4, 0] rfl ?_
      exact q_La_threats_b103 hnx x1 x2 x3 y11 y11 y13 s14 hs hb he0
    · refine x_iconst dL_threats_91 ?_
      refine w_goto dL_threats_92 rfl ?_
      refine w_lv (lv' := [(0, .ref 0), (1, vi x1), (2, vi x2), (3, vi x3), (4, vi y11)]) [1, 2, 3, 4, 0] rfl ?_
      exact q_La_threats_b103 hnx x1 x2 x3 y11 y11 (-1) s12 hs hb he0
set_option maxRecDepth 100000 in
theorem q_La_threats_l72 {C : Cx} {nx : Nat} (hnx : 80 ≤ nx) (x1 : Int) (x2 : Int) (x3 : Int) (s : Sg) {o : Int × Sg} (hs : La_threats_l72 x1 x2 x3 s = some o) : ww C M_L_threats 11 0 0 nx (QI nx o.2 o.1) (XF) nx 0 0 72 [(0, .ref 0), (1, vi x1), (2, vi x2), (3, vi x3)] [] (hp nx s) := by
  unfold La_threats_l72 at hs
  refine bnd_e hs (fun s_21 hw hs => ?_)
  have hE : ww C M_L_threats 11 0 0 nx (QI nx o.2 o.1) (XF) nx 0 0 139 [] [] (hp nx s_21) := by
    refine x_iconst dL_threats_139 ?_
    cases hs
    exact x_zreturn (Or.inr rfl) dL_threats_140 rfl rfl (Nat.le_of_ble_eq_true rfl) (Nat.le_of_ble_eq_true rfl) ⟨rfl, rfl⟩
  refine whl_w (P := fun σ => ww C M_L_threats 11 0 0 nx (QI nx o.2 o.1) (XF) nx 0 0 72 [(0, .ref 0), (1, vi x1), (2, vi x2), (3, vi σ.1)] [] (hp nx σ.2)) (E := fun ρ => ρ = s_21) hw rfl ?_
  intro σ o' hs' hb' he'
  exact q_La_threats_t72 hnx x1 x2 σ.1 σ.2 hs' hb' (fun ρ e => by cases he' _ e; exact hE)
set_option maxRecDepth 100000 in
theorem q_La_threats_b59 {C : Cx} {nx : Nat} (hnx : 80 ≤ nx) (x1 : Int) (x2 : Int) (t0 : Int) (t1 : Int) (s : Sg) {o : Int × Sg} (hs : La_threats_b59 x1 x2 t0 t1 s = some o) : ww C M_L_threats 11 0 0 nx (QI nx o.2 o.1) (XF) nx 0 0 59 [(0, .ref 0), (1, vi x1), (2, vi x2)] [vi t1, vi t0] (hp nx s) := by
  unfold La_threats_b59 at hs
  refine x_icmpeq hs dL_threats_59 rfl (fun hs => ?_) (fun hs => ?_)
  · refine w_aload_n 0 dL_threats_64 rfl rfl ?_
    refine x_iconst dL_threats_65 ?_
    refine x_V_Tr M_X11_saveSnapshot [vi 0] [] hs rfl dL_threats_66 (lkL_165 _ rfl) (lt_of hnx (Nat.le_of_ble_eq_true rfl)) rfl rfl (Nat.le_of_ble_eq_true rfl) (Nat.le_of_ble_eq_true rfl) (Nat.le_of_ble_eq_true rfl) (Nat.le_of_ble_eq_true rfl) (c_Hx_saveSnapshot hnx 0 s) (fun y9 s10 hy9 hs => ?_)
    refine w_pop dL_threats_69 rfl ?_
    refine x_iconst dL_threats_70 ?_
    refine w_istore_n (lv' := [(3, vi 0), (0, .ref 0), (1, vi x1), (2, vi x2)]) dL_threats_71 rfl (Nat.le_of_ble_eq_true rfl) rfl ?_
    refine w_lv (lv' := [(0, .ref 0), (1, vi x1), (2, vi x2), (3, vi 0)]) [1, 2, 3, 0] rfl ?_
    exact q_La_threats_l72 hnx x1 x2 0 s10 hs
  · cases hs
set_option maxRecDepth 100000 in
theorem q_La_threats_b50 {C : Cx} {nx : Nat} (hnx : 80 ≤ nx) (x1 : Int) (x2 : Int) (t0 : Int) (s : Sg) {o : Int × Sg} (hs : La_threats_b50 x1 x2 t0 s = some o) : ww C M_L_threats 11 0 0 nx (QI nx o.2 o.1) (XF) nx 0 0 50 [(0, .ref 0), (1, vi x1), (2, vi x2)] [vi t0] (hp nx s) := by
  unfold La_threats_b50 at hs
  refine w_iload_n 2 dL_threats_50 rfl rfl ?_
  refine x_ifle hs dL_threats_51 rfl (fun hs => ?_) (fun hs => ?_)
  · refine x_iconst dL_threats_58 ?_
    exact q_La_threats_b59 hnx x1 x2 t0 0 s hs
  · refine x_iconst dL_threats_54 ?_
    refine w_goto dL_threats_55 rfl ?_
    exact q_La_threats_b59 hnx x1 x2 t0 1 s hs
set_option maxRecDepth 100000 in
theorem c_La_threats {C : Cx} {nx : Nat} (hnx : 80 ≤ nx) (x1 : Int) (s : Sg) : ∀ o, La_threats x1 s = some o → mm C M_L_threats 11 0 0 nx nx [.ref 0, vi x1] (hp nx s) (QI nx o.2 o.1) (XF) := by
  intro o hs
  unfold La_threats at hs
  refine mm_of rfl rfl (Nat.le_of_ble_eq_true rfl) ?_
  show ww C M_L_threats 11 0 0 nx (QI nx o.2 o.1) (XF) nx 0 0 0 [(0, .ref 0), (1, vi x1)] [] (hp nx s)
  refine w_aload_n 0 dL_threats_0 rfl rfl ?_
  refine w_iload_n 1 dL_threats_1 rfl rfl ?_
  refine x_V_Tr M_X11_threats [vi x1] [] hs rfl dL_threats_2 (lkL_159 _ rfl) (lt_of hnx (Nat.le_of_ble_eq_true rfl)) rfl rfl (Nat.le_of_ble_eq_true rfl) (Nat.le_of_ble_eq_true rfl) (Nat.le_of_ble_eq_true rfl) (Nat.le_of_ble_eq_true rfl) (c_Hx_threats hnx x1 s) (fun y1 s2 hy1 hs => ?_)
  refine w_istore_n (lv' := [(2, vi y1), (0, .ref 0), (1, vi x1)]) dL_threats_5 rfl (Nat.le_of_ble_eq_true rfl) rfl ?_
  refine w_aload_n 1 dL_threats_6 rfl rfl ?_
  refine w_iload_n 2 dL_threats_7 rfl rfl ?_
  refine w_iload_n 0 dL_threats_8 rfl rfl ?_
  refine x_V_Tr M_X11_threat [vi x1, vi y1] [] hs rfl dL_threats_9 (lkL_162 _ rfl) (lt_of hnx (Nat.le_of_ble_eq_true rfl)) rfl rfl (Nat.le_of_ble_eq_true rfl) (Nat.le_of_ble_eq_true rfl) (Nat.le_of_ble_eq_true rfl) (Nat.le_of_ble_eq_true rfl) (c_Hx_threat hnx x1 y1 s2) (fun y3 s4 hy3 hs => ?_)
  refine x_iconst dL_threats_12 ?_
  refine x_icmpeq hs dL_threats_13 rfl (fun hs => ?_) (fun hs => ?_)
  · refine w_aload_n 1 dL_threats_18 rfl rfl ?_
    refine w_iload_n 2 dL_threats_19 rfl rfl ?_
    refine x_V_Tr M_X11_distance [vi x1] [] hs rfl dL_threats_20 (lkL_132 _ rfl) (lt_of hnx (Nat.le_of_ble_eq_true rfl)) rfl rfl (Nat.le_of_ble_eq_true rfl) (Nat.le_of_ble_eq_true rfl) (Nat.le_of_ble_eq_true rfl) (Nat.le_of_ble_eq_true rfl) (c_Hx_distance hnx x1 s4) (fun y5 s6 hy5 hs => ?_)
    refine x_ifne hs dL_threats_23 rfl (fun hs => ?_) (fun hs => ?_)
    · refine w_aload_n 1 dL_threats_36 rfl rfl ?_
      refine w_iload_n 2 dL_threats_37 rfl rfl ?_
      refine x_V_Tr M_X11_distance [vi x1] [] hs rfl dL_threats_38 (lkL_132 _ rfl) (lt_of hnx (Nat.le_of_ble_eq_true rfl)) rfl rfl (Nat.le_of_ble_eq_true rfl) (Nat.le_of_ble_eq_true rfl) (Nat.le_of_ble_eq_true rfl) (Nat.le_of_ble_eq_true rfl) (c_Hx_distance hnx x1 s6) (fun y7 s8 hy7 hs => ?_)
      refine x_iconst dL_threats_41 ?_
      refine x_icmpne hs dL_threats_42 rfl (fun hs => ?_) (fun hs => ?_)
      · refine x_iconst dL_threats_49 ?_
        refine w_lv (lv' := [(0, .ref 0), (1, vi x1), (2, vi y1)]) [1, 2, 0] rfl ?_
        exact q_La_threats_b50 hnx x1 y1 0 s8 hs
      · refine x_iconst dL_threats_45 ?_
        refine w_goto dL_threats_46 rfl ?_
        refine w_lv (lv' := [(0, .ref 0), (1, vi x1), (2, vi y1)]) [1, 2, 0] rfl ?_
        exact q_La_threats_b50 hnx x1 y1 1 s8 hs
    · refine w_iload_n 0 dL_threats_26 rfl rfl ?_
      refine x_ifne hs dL_threats_27 rfl (fun hs => ?_) (fun hs => ?_)
      · cases hs
      · refine x_iconst dL_threats_30 ?_
        refine w_goto dL_threats_31 rfl ?_
        cases hs
        exact x_zreturn (Or.inr rfl) dL_threats_35 rfl rfl (Nat.le_of_ble_eq_true rfl) (Nat.le_of_ble_eq_true rfl) ⟨rfl, rfl⟩
  · cases hs
set_option maxRecDepth 100000 in
theorem q_La_foresees_b362 {C : Cx} {nx : Nat} (hnx : 80 ≤ nx) (x3 : Int) (s : Sg) {o : Int × Sg} (hs : La_foresees_b362 x3 s = some o) : ww C M_L_foresees 16 0 0 nx (QI nx o.2 o.1) (XF) nx 0 0 362 [(0, .ref 0), (3, vl x3)] [] (hp nx s) := by
  unfold La_foresees_b362 at hs
  refine w_aload_n 0 dL_foresees_362 rfl rfl ?_
  refine x_S_BJ M_L_whole [.ref 0] [] hs rfl dL_foresees_363 (lkL_171 _ rfl) (Nat.le_of_ble_eq_true rfl) (Nat.le_of_ble_eq_true rfl) (Nat.le_of_ble_eq_true rfl) (Nat.le_of_ble_eq_true rfl) (c_La_whole hnx s) (fun y48 s49 hy48 hs => ?_)
  refine w_lload_n 1 dL_foresees_366 rfl rfl ?_
  refine grd_e hs (fun hg50 hs => ?_)
  refine x_lcmpE dL_foresees_367 hg50 ?_
  refine x_ifne hs dL_foresees_368 rfl (fun hs => ?_) (fun hs => ?_)
  · cases hs
  · refine x_iconst dL_foresees_371 ?_
    refine w_goto dL_foresees_372 rfl ?_
    cases hs
    exact x_zreturn (Or.inr rfl) dL_foresees_376 rfl rfl (Nat.le_of_ble_eq_true rfl) (Nat.le_of_ble_eq_true rfl) ⟨rfl, rfl⟩
set_option maxRecDepth 100000 in
theorem q_La_foresees_b357 {C : Cx} {nx : Nat} (hnx : 80 ≤ nx) (x3 : Int) (t0 : Int) (t1 : Int) (s : Sg) {o : Int × Sg} (hs : La_foresees_b357 x3 t0 t1 s = some o) : ww C M_L_foresees 16 0 0 nx (QI nx o.2 o.1) (XF) nx 0 0 357 [(0, .ref 0), (3, vl x3)] [vi t1, vi t0] (hp nx s) := by
  unfold La_foresees_b357 at hs
  refine x_icmpeq hs dL_foresees_357 rfl (fun hs => ?_) (fun hs => ?_)
  · exact q_La_foresees_b362 hnx x3 s hs
  · cases hs
set_option maxRecDepth 100000 in
theorem q_La_foresees_b323 {C : Cx} {nx : Nat} (hnx : 80 ≤ nx) (x3 : Int) (x10 : Int) (x11 : Int) (x12 : Int) (s : Sg) {o : Int × Sg} (hs : La_foresees_b323 x3 x10 x11 x12 s = some o) : ww C M_L_foresees 16 0 0 nx (QI nx o.2 o.1) (XF) nx 0 0 323 [(0, .ref 0), (3, vl x3), (10, vi x10), (11, vi x11), (12, vi x12)] [] (hp nx s) := by
  unfold La_foresees_b323 at hs
  refine w_iload 2 dL_foresees_323 rfl ?_
  refine w_aload_n 0 dL_foresees_325 rfl rfl ?_
  refine x_bipush dL_foresees_326 (by decide) ?_
  refine x_V_Tr M_X11_size [vi 6] [vi x10] hs rfl dL_foresees_328 (lkL_74 _ rfl) (lt_of hnx (Nat.le_of_ble_eq_true rfl)) rfl rfl (Nat.le_of_ble_eq_true rfl) (Nat.le_of_ble_eq_true rfl) (Nat.le_of_ble_eq_true rfl) (Nat.le_of_ble_eq_true rfl) (c_Hx_size hnx 6 s) (fun y44 s45 hy44 hs => ?_)
  refine x_icmpne hs dL_foresees_331 rfl (fun hs => ?_) (fun hs => ?_)
  · cases hs
  · refine w_iload 4 dL_foresees_334 rfl ?_
    refine x_iconst dL_foresees_336 ?_
    refine x_icmpne hs dL_foresees_337 rfl (fun hs => ?_) (fun hs => ?_)
    · cases hs
    · refine w_iload 3 dL_foresees_340 rfl ?_
      refine w_aload_n 0 dL_foresees_342 rfl rfl ?_
      refine x_bipush dL_foresees_343 (by decide) ?_
      refine x_V_Tr M_X11_size [vi 6] [vi x11] hs rfl dL_foresees_345 (lkL_74 _ rfl) (lt_of hnx (Nat.le_of_ble_eq_true rfl)) rfl rfl (Nat.le_of_ble_eq_true rfl) (Nat.le_of_ble_eq_true rfl) (Nat.le_of_ble_eq_true rfl) (Nat.le_of_ble_eq_true rfl) (c_Hx_size hnx 6 s45) (fun y46 s47 hy46 hs => ?_)
      refine x_iconst dL_foresees_348 ?_
      refine x_icmpne hs dL_foresees_349 rfl (fun hs => ?_) (fun hs => ?_)
      · refine x_iconst dL_foresees_356 ?_
        refine w_lv (lv' := [(0, .ref 0), (3, vl x3)]) [0, 1] rfl ?_
        exact q_La_foresees_b357 hnx x3 x11 0 s47 hs
      · refine x_iconst dL_foresees_352 ?_
        refine w_goto dL_foresees_353 rfl ?_
        refine w_lv (lv' := [(0, .ref 0), (3, vl x3)]) [0, 1] rfl ?_
        exact q_La_foresees_b357 hnx x3 x11 (-1) s47 hs
set_option maxRecDepth 100000 in
theorem q_La_foresees_b314 {C : Cx} {nx : Nat} (hnx : 80 ≤ nx) (x3 : Int) (s : Sg) {o : Int × Sg} (hs : La_foresees_b314 x3 s = some o) : ww C M_L_foresees 16 0 0 nx (QI nx o.2 o.1) (XF) nx 0 0 314 [(0, .ref 0), (3, vl x3)] [] (hp nx s) := by
  unfold La_foresees_b314 at hs
  refine w_aload_n 0 dL_foresees_314 rfl rfl ?_
  refine x_iconst dL_foresees_315 ?_
  refine x_V_Tr M_X11_restoreSnapshot [vi 0] [] hs rfl dL_foresees_316 (lkL_168 _ rfl) (lt_of hnx (Nat.le_of_ble_eq_true rfl)) rfl rfl (Nat.le_of_ble_eq_true rfl) (Nat.le_of_ble_eq_true rfl) (Nat.le_of_ble_eq_true rfl) (Nat.le_of_ble_eq_true rfl) (c_Hx_restoreSnapshot hnx 0 s) (fun y55 s56 hy55 hs => ?_)
  refine w_pop dL_foresees_319 rfl ?_
  refine w_goto dL_foresees_320 rfl ?_
  exact q_La_foresees_b362 hnx x3 s56 hs
set_option maxRecDepth 100000 in
theorem q_La_foresees_b280 {C : Cx} {nx : Nat} (hnx : 80 ≤ nx) (x3 : Int) (x12 : Int) (x13 : Int) (t0 : Int) (t1 : Int) (s : Sg) {o : Int × Sg} (hs : La_foresees_b280 x3 x12 x13 t0 t1 s = some o) : ww C M_L_foresees 16 0 0 nx (QI nx o.2 o.1) (XF) nx 0 0 280 [(0, .ref 0), (3, vl x3), (12, vi x12), (13, vi x13)] [vi t1, vi t0] (hp nx s) := by
  unfold La_foresees_b280 at hs
  refine x_icmpeq hs dL_foresees_280 rfl (fun hs => ?_) (fun hs => ?_)
  · refine w_iload 2 dL_foresees_285 rfl ?_
    refine x_iflt hs dL_foresees_287 rfl (fun hs => ?_) (fun hs => ?_)
    · refine w_lv (lv' := [(0, .ref 0), (3, vl x3)]) [0, 1] rfl ?_
      exact q_La_foresees_b314 hnx x3 s hs
    · refine w_aload_n 0 dL_foresees_290 rfl rfl ?_
      refine w_iload 2 dL_foresees_291 rfl ?_
      refine x_V_Tr M_X11_move [vi x12] [] hs rfl dL_foresees_293 (lkL_77 _ rfl) (lt_of hnx (Nat.le_of_ble_eq_true rfl)) rfl rfl (Nat.le_of_ble_eq_true rfl) (Nat.le_of_ble_eq_true rfl) (Nat.le_of_ble_eq_true rfl) (Nat.le_of_ble_eq_true rfl) (c_Hx_move hnx x12 s) (fun y57 s58 hy57 hs => ?_)
      refine x_iconst dL_foresees_296 ?_
      refine w_iload 3 dL_foresees_297 rfl ?_
      refine x_isub dL_foresees_299 ?_
      refine x_icmpeq hs dL_foresees_300 rfl (fun hs => ?_) (fun hs => ?_)
      · cases hs
      · refine w_aload_n 0 dL_foresees_303 rfl rfl ?_
        refine x_V_B M_X11_solved [] [] hs rfl dL_foresees_304 (lkL_184 _ rfl) (lt_of hnx (Nat.le_of_ble_eq_true rfl)) rfl rfl (Nat.le_of_ble_eq_true rfl) (Nat.le_of_ble_eq_true rfl) (Nat.le_of_ble_eq_true rfl) (Nat.le_of_ble_eq_true rfl) (c_Hx_solved hnx s58) (fun y59 s60 hy59 hs => ?_)
        refine w_iload 3 dL_foresees_307 rfl ?_
        refine x_icmpeq hs dL_foresees_309 rfl (fun hs => ?_) (fun hs => ?_)
        · refine w_lv (lv' := [(0, .ref 0), (3, vl x3)]) [0, 1] rfl ?_
          exact q_La_foresees_b314 hnx x3 s60 hs
        · cases hs
  · cases hs
set_option maxRecDepth 100000 in
theorem q_La_foresees_b270 {C : Cx} {nx : Nat} (hnx : 80 ≤ nx) (x3 : Int) (x11 : Int) (x12 : Int) (x13 : Int) (t0 : Int) (s : Sg) {o : Int × Sg} (hs : La_foresees_b270 x3 x11 x12 x13 t0 s = some o) : ww C M_L_foresees 16 0 0 nx (QI nx o.2 o.1) (XF) nx 0 0 270 [(0, .ref 0), (3, vl x3), (11, vi x11), (12, vi x12), (13, vi x13)] [vi t0] (hp nx s) := by
  unfold La_foresees_b270 at hs
  refine w_iload 2 dL_foresees_270 rfl ?_
  refine x_ifle hs dL_foresees_272 rfl (fun hs => ?_) (fun hs => ?_)
  · refine x_iconst dL_foresees_279 ?_
    refine w_lv (lv' := [(0, .ref 0), (3, vl x3), (12, vi x12), (13, vi x13)]) [0, 1, 3, 4] rfl ?_
    exact q_La_foresees_b280 hnx x3 x12 x13 t0 0 s hs
  · refine x_iconst dL_foresees_275 ?_
    refine w_goto dL_foresees_276 rfl ?_
    refine w_lv (lv' := [(0, .ref 0), (3, vl x3), (12, vi x12), (13, vi x13)]) [0, 1, 3, 4] rfl ?_
    exact q_La_foresees_b280 hnx x3 x12 x13 t0 1 s hs
set_option maxRecDepth 100000 in
theorem q_La_foresees_b257 {C : Cx} {nx : Nat} (hnx : 80 ≤ nx) (x3 : Int) (x11 : Int) (x12 : Int) (x13 : Int) (t0 : Int) (t1 : Int) (s : Sg) {o : Int × Sg} (hs : La_foresees_b257 x3 x11 x12 x13 t0 t1 s = some o) : ww C M_L_foresees 16 0 0 nx (QI nx o.2 o.1) (XF) nx 0 0 257 [(0, .ref 0), (3, vl x3), (11, vi x11), (12, vi x12), (13, vi x13)] [vi t1, vi t0] (hp nx s) := by
  unfold La_foresees_b257 at hs
  refine x_icmpne hs dL_foresees_257 rfl (fun hs => ?_) (fun hs => ?_)
  · cases hs
  · refine w_iload 3 dL_foresees_260 rfl ?_
    refine x_iflt hs dL_foresees_262 rfl (fun hs => ?_) (fun hs => ?_)
    · refine x_iconst dL_foresees_269 ?_
      exact q_La_foresees_b270 hnx x3 x11 x12 x13 0 s hs
    · refine x_iconst dL_foresees_265 ?_
      refine w_goto dL_foresees_266 rfl ?_
      exact q_La_foresees_b270 hnx x3 x11 x12 x13 1 s hs
set_option maxRecDepth 100000 in
theorem q_La_foresees_b247 {C : Cx} {nx : Nat} (hnx : 80 ≤ nx) (x3 : Int) (x11 : Int) (x12 : Int) (x13 : Int) (t0 : Int) (s : Sg) {o : Int × Sg} (hs : La_foresees_b247 x3 x11 x12 x13 t0 s = some o) : ww C M_L_foresees 16 0 0 nx (QI nx o.2 o.1) (XF) nx 0 0 247 [(0, .ref 0), (3, vl x3), (11, vi x11), (12, vi x12), (13, vi x13)] [vi t0] (hp nx s) := by
  unfold La_foresees_b247 at hs
  refine w_iload 2 dL_foresees_247 rfl ?_
  refine x_ifle hs dL_foresees_249 rfl (fun hs => ?_) (fun hs => ?_)
  · refine x_iconst dL_foresees_256 ?_
    exact q_La_foresees_b257 hnx x3 x11 x12 x13 t0 0 s hs
  · refine x_iconst dL_foresees_252 ?_
    refine w_goto dL_foresees_253 rfl ?_
    exact q_La_foresees_b257 hnx x3 x11 x12 x13 t0 1 s hs
set_option maxRecDepth 100000 in
theorem q_La_foresees_b202 {C : Cx} {nx : Nat} (hnx : 80 ≤ nx) (x3 : Int) (x10 : Int) (x11 : Int) (x12 : Int) (s : Sg) {o : Int × Sg} (hs : La_foresees_b202 x3 x10 x11 x12 s = some o) : ww C M_L_foresees 16 0 0 nx (QI nx o.2 o.1) (XF) nx 0 0 202 [(0, .ref 0), (3, vl x3), (10, vi x10), (11, vi x11), (12, vi x12)] [] (hp nx s) := by
  unfold La_foresees_b202 at hs
  refine w_aload_n 0 dL_foresees_202 rfl rfl ?_
  refine x_iconst dL_foresees_203 ?_
  refine x_V_Tr M_X11_restoreSnapshot [vi 0] [] hs rfl dL_foresees_204 (lkL_168 _ rfl) (lt_of hnx (Nat.le_of_ble_eq_true rfl)) rfl rfl (Nat.le_of_ble_eq_true rfl) (Nat.le_of_ble_eq_true rfl) (Nat.le_of_ble_eq_true rfl) (Nat.le_of_ble_eq_true rfl) (c_Hx_restoreSnapshot hnx 0 s) (fun y40 s41 hy40 hs => ?_)
  refine w_pop dL_foresees_207 rfl ?_
  refine w_aload_n 0 dL_foresees_208 rfl rfl ?_
  refine x_bipush dL_foresees_209 (by decide) ?_
  refine x_V_Tr M_X11_size [vi 6] [] hs rfl dL_foresees_211 (lkL_74 _ rfl) (lt_of hnx (Nat.le_of_ble_eq_true rfl)) rfl rfl (Nat.le_of_ble_eq_true rfl) (Nat.le_of_ble_eq_true rfl) (Nat.le_of_ble_eq_true rfl) (Nat.le_of_ble_eq_true rfl) (c_Hx_size hnx 6 s41) (fun y42 s43 hy42 hs => ?_)
  refine x_iconst dL_foresees_214 ?_
  refine x_icmpne hs dL_foresees_215 rfl (fun hs => ?_) (fun hs => ?_)
  · exact q_La_foresees_b323 hnx x3 x10 x11 x12 s43 hs
  · refine w_aload_n 0 dL_foresees_218 rfl rfl ?_
    refine x_iconst dL_foresees_219 ?_
    refine x_V_Tr M_X11_size [vi 3] [] hs rfl dL_foresees_220 (lkL_74 _ rfl) (lt_of hnx (Nat.le_of_ble_eq_true rfl)) rfl rfl (Nat.le_of_ble_eq_true rfl) (Nat.le_of_ble_eq_true rfl) (Nat.le_of_ble_eq_true rfl) (Nat.le_of_ble_eq_true rfl) (c_Hx_size hnx 3 s43) (fun y51 s52 hy51 hs => ?_)
    refine x_bipush dL_foresees_223 (by decide) ?_
    refine x_icmpgt hs dL_foresees_225 rfl (fun hs => ?_) (fun hs => ?_)
    · exact q_La_foresees_b323 hnx x3 x10 x11 x12 s52 hs
    · refine w_aload_n 0 dL_foresees_228 rfl rfl ?_
      refine x_iconst dL_foresees_229 ?_
      refine x_V_Tr M_X11_size [vi 5] [] hs rfl dL_foresees_230 (lkL_74 _ rfl) (lt_of hnx (Nat.le_of_ble_eq_true rfl)) rfl rfl (Nat.le_of_ble_eq_true rfl) (Nat.le_of_ble_eq_true rfl) (Nat.le_of_ble_eq_true rfl) (Nat.le_of_ble_eq_true rfl) (c_Hx_size hnx 5 s52) (fun y53 s54 hy53 hs => ?_)
      refine w_istore (lv' := [(13, vi y53), (0, .ref 0), (3, vl x3), (10, vi x10), (11, vi x11), (12, vi x12)]) dL_foresees_233 (Nat.le_of_ble_eq_true rfl) rfl ?_
      refine w_iload 3 dL_foresees_235 rfl ?_
      refine w_iload 0 dL_foresees_237 rfl ?_
      refine x_icmpne hs dL_foresees_239 rfl (fun hs => ?_) (fun hs => ?_)
      · refine x_iconst dL_foresees_246 ?_
        refine w_lv (lv' := [(0, .ref 0), (3, vl x3), (11, vi x11), (12, vi x12), (13, vi y53)]) [1, 2, 4, 5, 0] rfl ?_
        exact q_La_foresees_b247 hnx x3 x11 x12 y53 0 s54 hs
      · refine x_iconst dL_foresees_242 ?_
        refine w_goto dL_foresees_243 rfl ?_
        refine w_lv (lv' := [(0, .ref 0), (3, vl x3), (11, vi x11), (12, vi x12), (13, vi y53)]) [1, 2, 4, 5, 0] rfl ?_
        exact q_La_foresees_b247 hnx x3 x11 x12 y53 1 s54 hs
set_option maxRecDepth 100000 in
theorem q_La_foresees_b90 {C : Cx} {nx : Nat} (hnx : 80 ≤ nx) (x3 : Int) (x5 : Int) (x6 : Int) (x7 : Int) (x8 : Int) (x9 : Int) (x10 : Int) (x11 : Int) (x12 : Int) (t0 : Int) (t1 : Int) (s : Sg) {o : Int × Sg} (hs : La_foresees_b90 x3 x5 x6 x7 x8 x9 x10 x11 x12 t0 t1 s = some o) : ww C M_L_foresees 16 0 0 nx (QI nx o.2 o.1) (XF) nx 0 0 90 [(0, .ref 0), (3, vl x3), (5, vi x5), (6, vi x6), (7, vi x7), (8, vi x8), (9, vi x9), (10, vi x10), (11, vi x11), (12, vi x12)] [vi t1, vi t0] (hp nx s) := by
  unfold La_foresees_b90 at hs
  refine x_icmpne hs dL_foresees_90 rfl (fun hs => ?_) (fun hs => ?_)
  · cases hs
  · refine w_aload_n 0 dL_foresees_93 rfl rfl ?_
    refine x_iconst dL_foresees_94 ?_
    refine w_iload 2 dL_foresees_95 rfl ?_
    refine w_iload 3 dL_foresees_97 rfl ?_
    refine x_V_Tr M_X11_fillings [vi 0, vi x5, vi x6] [] hs rfl dL_foresees_99 (lkL_193 _ rfl) (lt_of hnx (Nat.le_of_ble_eq_true rfl)) rfl rfl (Nat.le_of_ble_eq_true rfl) (Nat.le_of_ble_eq_true rfl) (Nat.le_of_ble_eq_true rfl) (Nat.le_of_ble_eq_true rfl) (c_Hx_fillings hnx 0 x5 x6 s) (fun y22 s23 hy22 hs => ?_)
    refine w_aload_n 0 dL_foresees_102 rfl rfl ?_
    refine x_iconst dL_foresees_103 ?_
    refine w_iload 2 dL_foresees_104 rfl ?_
    refine w_iload 3 dL_foresees_106 rfl ?_
    refine x_V_Tr M_X11_fillings [vi 1, vi x5, vi x6] [vi y22] hs rfl dL_foresees_108 (lkL_193 _ rfl) (lt_of hnx (Nat.le_of_ble_eq_true rfl)) rfl rfl (Nat.le_of_ble_eq_true rfl) (Nat.le_of_ble_eq_true rfl) (Nat.le_of_ble_eq_true rfl) (Nat.le_of_ble_eq_true rfl) (c_Hx_fillings hnx 1 x5 x6 s23) (fun y24 s25 hy24 hs => ?_)
    refine x_iadd dL_foresees_111 ?_
    refine w_iload 3 dL_foresees_112 rfl ?_
    refine x_icmpne hs dL_foresees_114 rfl (fun hs => ?_) (fun hs => ?_)
    · cases hs
    · refine w_aload_n 0 dL_foresees_117 rfl rfl ?_
      refine w_aload_n 0 dL_foresees_118 rfl rfl ?_
      refine w_iload 2 dL_foresees_119 rfl ?_
      refine x_V_Tr M_X11_filled [vi x5] [.ref 0] hs rfl dL_foresees_121 (lkL_196 _ rfl) (lt_of hnx (Nat.le_of_ble_eq_true rfl)) rfl rfl (Nat.le_of_ble_eq_true rfl) (Nat.le_of_ble_eq_true rfl) (Nat.le_of_ble_eq_true rfl) (Nat.le_of_ble_eq_true rfl) (c_Hx_filled hnx x5 s25) (fun y26 s27 hy26 hs => ?_)
      refine w_iload 2 dL_foresees_124 rfl ?_
      refine x_iconst dL_foresees_126 ?_
      refine x_V_Tr M_X11_fillings [vi y26, vi x5, vi 1] [] hs rfl dL_foresees_127 (lkL_193 _ rfl) (lt_of hnx (Nat.le_of_ble_eq_true rfl)) rfl rfl (Nat.le_of_ble_eq_true rfl) (Nat.le_of_ble_eq_true rfl) (Nat.le_of_ble_eq_true rfl) (Nat.le_of_ble_eq_true rfl) (c_Hx_fillings hnx y26 x5 1 s27) (fun y28 s29 hy28 hs => ?_)
      refine x_iconst dL_foresees_130 ?_
      refine x_icmpne hs dL_foresees_131 rfl (fun hs => ?_) (fun hs => ?_)
      · cases hs
      · refine w_aload_n 0 dL_foresees_134 rfl rfl ?_
        refine w_iload 2 dL_foresees_135 rfl ?_
        refine x_V_Tr M_X11_idle [vi x5] [] hs rfl dL_foresees_137 (lkL_199 _ rfl) (lt_of hnx (Nat.le_of_ble_eq_true rfl)) rfl rfl (Nat.le_of_ble_eq_true rfl) (Nat.le_of_ble_eq_true rfl) (Nat.le_of_ble_eq_true rfl) (Nat.le_of_ble_eq_true rfl) (c_Hx_idle hnx x5 s29) (fun y30 s31 hy30 hs => ?_)
        refine w_aload_n 0 dL_foresees_140 rfl rfl ?_
        refine x_iconst dL_foresees_141 ?_
        refine x_V_Tr M_X11_size [vi 3] [vi y30] hs rfl dL_foresees_142 (lkL_74 _ rfl) (lt_of hnx (Nat.le_of_ble_eq_true rfl)) rfl rfl (Nat.le_of_ble_eq_true rfl) (Nat.le_of_ble_eq_true rfl) (Nat.le_of_ble_eq_true rfl) (Nat.le_of_ble_eq_true rfl) (c_Hx_size hnx 3 s31) (fun y32 s33 hy32 hs => ?_)
        refine x_icmple hs dL_foresees_145 rfl (fun hs => ?_) (fun hs => ?_)
        · refine w_aload_n 0 dL_foresees_150 rfl rfl ?_
          refine x_iconst dL_foresees_151 ?_
          refine x_V_Tr M_X11_saveSnapshot [vi 0] [] hs rfl dL_foresees_152 (lkL_165 _ rfl) (lt_of hnx (Nat.le_of_ble_eq_true rfl)) rfl rfl (Nat.le_of_ble_eq_true rfl) (Nat.le_of_ble_eq_true rfl) (Nat.le_of_ble_eq_true rfl) (Nat.le_of_ble_eq_true rfl) (c_Hx_saveSnapshot hnx 0 s33) (fun y34 s35 hy34 hs => ?_)
          refine w_pop dL_foresees_155 rfl ?_
          refine w_aload_n 0 dL_foresees_156 rfl rfl ?_
          refine x_bipush dL_foresees_157 (by decide) ?_
          refine x_V_Tr M_X11_playForced [vi 81] [] hs rfl dL_foresees_159 (lkL_93 _ rfl) (lt_of hnx (Nat.le_of_ble_eq_true rfl)) rfl rfl (Nat.le_of_ble_eq_true rfl) (Nat.le_of_ble_eq_true rfl) (Nat.le_of_ble_eq_true rfl) (Nat.le_of_ble_eq_true rfl) (c_Hx_playForced hnx 81 s35) (fun y36 s37 hy36 hs => ?_)
          refine w_iload 5 dL_foresees_162 rfl ?_
          refine x_icmpne hs dL_foresees_164 rfl (fun hs => ?_) (fun hs => ?_)
          · cases hs
          · refine w_aload_n 0 dL_foresees_167 rfl rfl ?_
            refine x_bipush dL_foresees_168 (by decide) ?_
            refine x_V_Tr M_X11_size [vi 6] [] hs rfl dL_foresees_170 (lkL_74 _ rfl) (lt_of hnx (Nat.le_of_ble_eq_true rfl)) rfl rfl (Nat.le_of_ble_eq_true rfl) (Nat.le_of_ble_eq_true rfl) (Nat.le_of_ble_eq_true rfl) (Nat.le_of_ble_eq_true rfl) (c_Hx_size hnx 6 s37) (fun y38 s39 hy38 hs => ?_)
            refine w_iload 4 dL_foresees_173 rfl ?_
            refine x_icmpne hs dL_foresees_175 rfl (fun hs => ?_) (fun hs => ?_)
            · cases hs
            · refine w_iload 5 dL_foresees_178 rfl ?_
              refine x_ifle hs dL_foresees_180 rfl (fun hs => ?_) (fun hs => ?_)
              · refine w_lv (lv' := [(0, .ref 0), (3, vl x3), (10, vi x10), (11, vi x11), (12, vi x12)]) [0, 1, 7, 8, 9] rfl ?_
                exact q_La_foresees_b202 hnx x3 x10 x11 x12 s39 hs
              · refine w_aload_n 0 dL_foresees_183 rfl rfl ?_
                refine w_aload_n 0 dL_foresees_184 rfl rfl ?_
                refine x_iconst dL_foresees_185 ?_
                refine x_V_Tr M_X11_size [vi 4] [.ref 0] hs rfl dL_foresees_186 (lkL_74 _ rfl) (lt_of hnx (Nat.le_of_ble_eq_true rfl)) rfl rfl (Nat.le_of_ble_eq_true rfl) (Nat.le_of_ble_eq_true rfl) (Nat.le_of_ble_eq_true rfl) (Nat.le_of_ble_eq_true rfl) (c_Hx_size hnx 4 s39) (fun y61 s62 hy61 hs => ?_)
                refine w_iload 5 dL_foresees_189 rfl ?_
                refine x_isub dL_foresees_191 ?_
                refine x_V_I M_X11_moveAt [vi (y61 - x8)] [] hs rfl dL_foresees_192 (lkL_102 _ rfl) (lt_of hnx (Nat.le_of_ble_eq_true rfl)) rfl rfl (Nat.le_of_ble_eq_true rfl) (Nat.le_of_ble_eq_true rfl) (Nat.le_of_ble_eq_true rfl) (Nat.le_of_ble_eq_true rfl) (c_Hx_moveAt hnx (y61 - x8) s62) (fun y63 hy63 hs => ?_)
                refine w_iload 6 dL_foresees_195 rfl ?_
                refine x_icmpeq hs dL_foresees_197 rfl (fun hs => ?_) (fun hs => ?_)
                · refine w_lv (lv' := [(0, .ref 0), (3, vl x3), (10, vi x10), (11, vi x11), (12, vi x12)]) [0, 1, 7, 8, 9] rfl ?_
                  exact q_La_foresees_b202 hnx x3 x10 x11 x12 s62 hs
                · cases hs
        · cases hs
set_option maxRecDepth 100000 in
theorem q_La_foresees_b80 {C : Cx} {nx : Nat} (hnx : 80 ≤ nx) (x3 : Int) (x5 : Int) (x6 : Int) (x7 : Int) (x8 : Int) (x9 : Int) (x10 : Int) (x11 : Int) (x12 : Int) (t0 : Int) (s : Sg) {o : Int × Sg} (hs : La_foresees_b80 x3 x5 x6 x7 x8 x9 x10 x11 x12 t0 s = some o) : ww C M_L_foresees 16 0 0 nx (QI nx o.2 o.1) (XF) nx 0 0 80 [(0, .ref 0), (3, vl x3), (5, vi x5), (6, vi x6), (7, vi x7), (8, vi x8), (9, vi x9), (10, vi x10), (11, vi x11), (12, vi x12)] [vi t0] (hp nx s) := by
  unfold La_foresees_b80 at hs
  refine w_iload 6 dL_foresees_80 rfl ?_
  refine x_iflt hs dL_foresees_82 rfl (fun hs => ?_) (fun hs => ?_)
  · refine x_iconst dL_foresees_89 ?_
    exact q_La_foresees_b90 hnx x3 x5 x6 x7 x8 x9 x10 x11 x12 t0 0 s hs
  · refine x_iconst dL_foresees_85 ?_
    refine w_goto dL_foresees_86 rfl ?_
    exact q_La_foresees_b90 hnx x3 x5 x6 x7 x8 x9 x10 x11 x12 t0 1 s hs
set_option maxRecDepth 100000 in
theorem c_La_foresees {C : Cx} {nx : Nat} (hnx : 80 ≤ nx) (x2 : Int) (s : Sg) : ∀ o, La_foresees x2 s = some o → mm C M_L_foresees 16 0 0 nx nx [.ref 0, .ref 1200, vi x2] (hp nx s) (QI nx o.2 o.1) (XF) := by
  intro o hs
  unfold La_foresees at hs
  refine mm_of rfl rfl (Nat.le_of_ble_eq_true rfl) ?_
  show ww C M_L_foresees 16 0 0 nx (QI nx o.2 o.1) (XF) nx 0 0 0 [(0, .ref 0), (1, .ref 1200), (2, vi x2)] [] (hp nx s)
  refine w_aload_n 0 dL_foresees_0 rfl rfl ?_
  refine x_S_BJ M_L_whole [.ref 0] [] hs rfl dL_foresees_1 (lkL_171 _ rfl) (Nat.le_of_ble_eq_true rfl) (Nat.le_of_ble_eq_true rfl) (Nat.le_of_ble_eq_true rfl) (Nat.le_of_ble_eq_true rfl) (c_La_whole hnx s) (fun y1 s2 hy1 hs => ?_)
  refine w_lstore_n (lv' := [(3, vl y1), (0, .ref 0), (1, .ref 1200), (2, vi x2)]) dL_foresees_4 rfl (Nat.le_of_ble_eq_true rfl) rfl ?_
  refine w_aload_n 2 dL_foresees_5 rfl rfl ?_
  refine w_iload_n 3 dL_foresees_6 rfl rfl ?_
  refine x_S_I M_L_cell [.ref 1200, vi x2] [] hs rfl dL_foresees_7 (lkL_33 _ rfl) (Nat.le_of_ble_eq_true rfl) (Nat.le_of_ble_eq_true rfl) (Nat.le_of_ble_eq_true rfl) (Nat.le_of_ble_eq_true rfl) (c_La_cell hnx x2 s2) (fun y3 hy3 hs => ?_)
  refine w_istore (lv' := [(5, vi y3), (3, vl y1), (0, .ref 0), (1, .ref 1200), (2, vi x2)]) dL_foresees_10 (Nat.le_of_ble_eq_true rfl) rfl ?_
  refine x_iconst dL_foresees_12 ?_
  refine w_aload_n 3 dL_foresees_13 rfl rfl ?_
  refine w_iload_n 4 dL_foresees_14 rfl rfl ?_
  refine x_iconst dL_foresees_15 ?_
  refine x_iadd dL_foresees_16 ?_
  refine x_S_I M_L_cell [.ref 1200, vi (x2 + 1)] [vi 1] hs rfl dL_foresees_17 (lkL_33 _ rfl) (Nat.le_of_ble_eq_true rfl) (Nat.le_of_ble_eq_true rfl) (Nat.le_of_ble_eq_true rfl) (Nat.le_of_ble_eq_true rfl) (c_La_cell hnx (x2 + 1) s2) (fun y4 hy4 hs => ?_)
  refine x_iconst dL_foresees_20 ?_
  refine grd_e hs (fun hg5 hs => ?_)
  refine x_irem dL_foresees_21 ⟨hg5.1, by decide, hg5.2.2⟩ ?_
  refine x_iadd dL_foresees_22 ?_
  refine x_istore (fun x6_6 => [(6, vi x6_6), (5, vi y3), (3, vl y1), (0, .ref 0), (1, .ref 1200), (2, vi x2)]) hs dL_foresees_23 (Nat.le_of_ble_eq_true rfl) (fun _ => rfl) (fun x6_6 hs => ?_)
  refine w_aload_n 3 dL_foresees_25 rfl rfl ?_
  refine x_V_B M_X11_forcedWinner [] [] hs rfl dL_foresees_26 (lkL_175 _ rfl) (lt_of hnx (Nat.le_of_ble_eq_true rfl)) rfl rfl (Nat.le_of_ble_eq_true rfl) (Nat.le_of_ble_eq_true rfl) (Nat.le_of_ble_eq_true rfl) (Nat.le_of_ble_eq_true rfl) (c_Hx_forcedWinner hnx s2) (fun y7 s8 hy7 hs => ?_)
  refine w_istore (lv' := [(7, vi y7), (6, vi x6_6), (5, vi y3), (3, vl y1), (0, .ref 0), (1, .ref 1200), (2, vi x2)]) dL_foresees_29 (Nat.le_of_ble_eq_true rfl) rfl ?_
  refine w_aload_n 4 dL_foresees_31 rfl rfl ?_
  refine x_V_B M_X11_forcedRow [] [] hs rfl dL_foresees_32 (lkL_178 _ rfl) (lt_of hnx (Nat.le_of_ble_eq_true rfl)) rfl rfl (Nat.le_of_ble_eq_true rfl) (Nat.le_of_ble_eq_true rfl) (Nat.le_of_ble_eq_true rfl) (Nat.le_of_ble_eq_true rfl) (c_Hx_forcedRow hnx s8) (fun y9 s10 hy9 hs => ?_)
  refine w_istore (lv' := [(8, vi y9), (7, vi y7), (6, vi x6_6), (5, vi y3), (3, vl y1), (0, .ref 0), (1, .ref 1200), (2, vi x2)]) dL_foresees_35 (Nat.le_of_ble_eq_true rfl) rfl ?_
  refine w_aload_n 5 dL_foresees_37 rfl rfl ?_
  refine x_V_B M_X11_forced [] [] hs rfl dL_foresees_38 (lkL_181 _ rfl) (lt_of hnx (Nat.le_of_ble_eq_true rfl)) rfl rfl (Nat.le_of_ble_eq_true rfl) (Nat.le_of_ble_eq_true rfl) (Nat.le_of_ble_eq_true rfl) (Nat.le_of_ble_eq_true rfl) (c_Hx_forced hnx s10) (fun y11 s12 hy11 hs => ?_)
  refine w_istore (lv' := [(9, vi y11), (8, vi y9), (7, vi y7), (6, vi x6_6), (5, vi y3), (3, vl y1), (0, .ref 0), (1, .ref 1200), (2, vi x2)]) dL_foresees_41 (Nat.le_of_ble_eq_true rfl) rfl ?_
  refine w_aload_n 6 dL_foresees_43 rfl rfl ?_
  refine x_V_B M_X11_solved [] [] hs rfl dL_foresees_44 (lkL_184 _ rfl) (lt_of hnx (Nat.le_of_ble_eq_true rfl)) rfl rfl (Nat.le_of_ble_eq_true rfl) (Nat.le_of_ble_eq_true rfl) (Nat.le_of_ble_eq_true rfl) (Nat.le_of_ble_eq_true rfl) (c_Hx_solved hnx s12) (fun y13 s14 hy13 hs => ?_)
  refine w_istore (lv' := [(10, vi y13), (9, vi y11), (8, vi y9), (7, vi y7), (6, vi x6_6), (5, vi y3), (3, vl y1), (0, .ref 0), (1, .ref 1200), (2, vi x2)]) dL_foresees_47 (Nat.le_of_ble_eq_true rfl) rfl ?_
  refine w_aload_n 7 dL_foresees_49 rfl rfl ?_
  refine x_V_B M_X11_goodMoves [] [] hs rfl dL_foresees_50 (lkL_187 _ rfl) (lt_of hnx (Nat.le_of_ble_eq_true rfl)) rfl rfl (Nat.le_of_ble_eq_true rfl) (Nat.le_of_ble_eq_true rfl) (Nat.le_of_ble_eq_true rfl) (Nat.le_of_ble_eq_true rfl) (c_Hx_goodMoves hnx s14) (fun y15 s16 hy15 hs => ?_)
  refine w_istore (lv' := [(11, vi y15), (10, vi y13), (9, vi y11), (8, vi y9), (7, vi y7), (6, vi x6_6), (5, vi y3), (3, vl y1), (0, .ref 0), (1, .ref 1200), (2, vi x2)]) dL_foresees_53 (Nat.le_of_ble_eq_true rfl) rfl ?_
  refine w_aload_n 8 dL_foresees_55 rfl rfl ?_
  refine x_V_B M_X11_bestMove [] [] hs rfl dL_foresees_56 (lkL_190 _ rfl) (lt_of hnx (Nat.le_of_ble_eq_true rfl)) rfl rfl (Nat.le_of_ble_eq_true rfl) (Nat.le_of_ble_eq_true rfl) (Nat.le_of_ble_eq_true rfl) (Nat.le_of_ble_eq_true rfl) (c_Hx_bestMove hnx s16) (fun y17 s18 hy17 hs => ?_)
  refine w_istore (lv' := [(12, vi y17), (11, vi y15), (10, vi y13), (9, vi y11), (8, vi y9), (7, vi y7), (6, vi x6_6), (5, vi y3), (3, vl y1), (0, .ref 0), (1, .ref 1200), (2, vi x2)]) dL_foresees_59 (Nat.le_of_ble_eq_true rfl) rfl ?_
  refine w_aload_n 9 dL_foresees_61 rfl rfl ?_
  refine x_S_BJ M_L_whole [.ref 0] [] hs rfl dL_foresees_62 (lkL_171 _ rfl) (Nat.le_of_ble_eq_true rfl) (Nat.le_of_ble_eq_true rfl) (Nat.le_of_ble_eq_true rfl) (Nat.le_of_ble_eq_true rfl) (c_La_whole hnx s18) (fun y19 s20 hy19 hs => ?_)
  refine w_lload_n 8 dL_foresees_65 rfl rfl ?_
  refine grd_e hs (fun hg21 hs => ?_)
  refine x_lcmpE dL_foresees_66 hg21 ?_
  refine x_ifne hs dL_foresees_67 rfl (fun hs => ?_) (fun hs => ?_)
  · cases hs
  · refine w_iload 4 dL_foresees_70 rfl ?_
    refine x_ifle hs dL_foresees_72 rfl (fun hs => ?_) (fun hs => ?_)
    · refine x_iconst dL_foresees_79 ?_
      refine w_lv (lv' := [(0, .ref 0), (3, vl y1), (5, vi y3), (6, vi x6_6), (7, vi y7), (8, vi y9), (9, vi y11), (10, vi y13), (11, vi y15), (12, vi y17)]) [9, 8, 7, 6, 5, 4, 3, 2, 1, 0] rfl ?_
      exact q_La_foresees_b80 hnx y1 y3 x6_6 y7 y9 y11 y13 y15 y17 0 s20 hs
    · refine x_iconst dL_foresees_75 ?_
      refine w_goto dL_foresees_76 rfl ?_
      refine w_lv (lv' := [(0, .ref 0), (3, vl y1), (5, vi y3), (6, vi x6_6), (7, vi y7), (8, vi y9), (9, vi y11), (10, vi y13), (11, vi y15), (12, vi y17)]) [9, 8, 7, 6, 5, 4, 3, 2, 1, 0] rfl ?_
      exact q_La_foresees_b80 hnx y1 y3 x6_6 y7 y9 y11 y13 y15 y17 1 s20 hs

set_option maxRecDepth 100000 in
theorem q_Pa_spread_b58 {C : Cx} {nx : Nat} (hnx : 80 ≤ nx) {Qr : Option Value → Hp → Prop} {Qx : String → Hp → Prop}  (r0 : Nat) (h_r0 : isPaths r0) (r1 : Nat) (h_r1 : isRowW nx r1) (x2 : Int) (x3 : Int) (x4 : Int) (t1 : Int) (t2 : Int) (s : Sg) {o : ((Int × Sg) ⊕ (Sg))} (hs : Pa_spread_b58 r0 r1 x2 x3 x4 t1 t2 s = some o) (hb : ∀ σ : Int × Sg, o = .inl σ → ww C M_X8_spread 2 0 0 nx (Qr) (Qx) nx 0 0 3 [(0, .ref r0), (1, .ref r1), (2, vi x2), (3, vi x3), (4, vi σ.1)] [] (hp nx σ.2)) (he0 : ∀ ρ : Sg, o = .inr ρ → ww C M_X8_spread 2 0 0 nx (Qr) (Qx) nx 0 0 67 [(0, .ref r0), (1, .ref r1)] [] (hp nx ρ)) : ww C M_X8_spread 2 0 0 nx (Qr) (Qx) nx 0 0 58 [(0, .ref r0), (1, .ref r1), (2, vi x2), (3, vi x3), (4, vi x4)] [vi t2, vi t1, .ref r1] (hp nx s) := by
  unfold Pa_spread_b58 at hs
  refine x_N_V M_X11_set [.ref r1, vi t1, vi t2] [] hs rfl dX8_spread_58 (lkX8_35 _ rfl) (Nat.le_of_ble_eq_true rfl) (Nat.le_of_ble_eq_true rfl) (Nat.le_of_ble_eq_true rfl) (Nat.le_of_ble_eq_true rfl) (c_Hx_set hnx r1 h_r1 t1 t2 s) (fun s3 hs3 hs => ?_)
  refine x_iinc (lv' := [(4, vi (x4 + 1)), (0, .ref r0), (1, .ref r1), (2, vi x2), (3, vi x3)]) 4 dX8_spread_61 rfl (Nat.le_of_ble_eq_true rfl) rfl ?_
  refine w_goto dX8_spread_64 rfl ?_
  refine w_lv (lv' := [(0, .ref r0), (1, .ref r1), (2, vi x2), (3, vi x3), (4, vi (x4 + 1))]) [1, 2, 3, 4, 0] rfl ?_
  cases hs
  exact hb _ rfl
set_option maxRecDepth 100000 in
theorem q_Pa_spread_b35 {C : Cx} {nx : Nat} (hnx : 80 ≤ nx) {Qr : Option Value → Hp → Prop} {Qx : String → Hp → Prop}  (r0 : Nat) (h_r0 : isPaths r0) (r1 : Nat) (h_r1 : isRowW nx r1) (x2 : Int) (x3 : Int) (x4 : Int) (t0 : Int) (s : Sg) {o : ((Int × Sg) ⊕ (Sg))} (hs : Pa_spread_b35 r0 r1 x2 x3 x4 t0 s = some o) (hb : ∀ σ : Int × Sg, o = .inl σ → ww C M_X8_spread 2 0 0 nx (Qr) (Qx) nx 0 0 3 [(0, .ref r0), (1, .ref r1), (2, vi x2), (3, vi x3), (4, vi σ.1)] [] (hp nx σ.2)) (he0 : ∀ ρ : Sg, o = .inr ρ → ww C M_X8_spread 2 0 0 nx (Qr) (Qx) nx 0 0 67 [(0, .ref r0), (1, .ref r1)] [] (hp nx ρ)) : ww C M_X8_spread 2 0 0 nx (Qr) (Qx) nx 0 0 35 [(0, .ref r0), (1, .ref r1), (2, vi x2), (3, vi x3), (4, vi x4)] [vi t0] (hp nx s) := by
  unfold Pa_spread_b35 at hs
  refine w_istore (lv' := [(5, vi t0), (0, .ref r0), (1, .ref r1), (2, vi x2), (3, vi x3), (4, vi x4)]) dX8_spread_35 (Nat.le_of_ble_eq_true rfl) rfl ?_
  refine w_aload_n 2 dX8_spread_37 rfl rfl ?_
  refine w_iload 5 dX8_spread_38 rfl ?_
  refine w_iload 0 dX8_spread_40 rfl ?_
  refine x_ifeq hs dX8_spread_42 rfl (fun hs => ?_) (fun hs => ?_)
  · refine x_iconst dX8_spread_57 ?_
    refine w_lv (lv' := [(0, .ref r0), (1, .ref r1), (2, vi x2), (3, vi x3), (4, vi x4)]) [1, 2, 3, 4, 5] rfl ?_
    exact q_Pa_spread_b58 hnx r0 h_r0 r1 h_r1 x2 x3 x4 x4 (-1) s hs hb he0
  · refine w_aload_n 1 dX8_spread_45 rfl rfl ?_
    refine x_getR 8 1 (b := (r0 + 1)) dX8_spread_46 (fxX8_15 rfl) rfl (paths_s0 h_r0) (paths_n (j := 0) h_r0 (by decide) hnx) (paths_r1 h_r0) ?_
    refine w_iload 5 dX8_spread_49 rfl ?_
    refine x_N_I M_X11_at [.ref (r0 + 1), vi x4] [vi x4, .ref r1] hs rfl dX8_spread_51 (lkX8_31 _ rfl) (Nat.le_of_ble_eq_true rfl) (Nat.le_of_ble_eq_true rfl) (Nat.le_of_ble_eq_true rfl) (Nat.le_of_ble_eq_true rfl) (c_Hx_at hnx (r0 + 1) (Or.inl (rowW_of (paths_s1 h_r0) (paths_n (j := 1) h_r0 (by decide) hnx))) x4 s) (fun y4 hy4 hs => ?_)
    refine w_goto dX8_spread_54 rfl ?_
    refine w_lv (lv' := [(0, .ref r0), (1, .ref r1), (2, vi x2), (3, vi x3), (4, vi x4)]) [1, 2, 3, 4, 5] rfl ?_
    exact q_Pa_spread_b58 hnx r0 h_r0 r1 h_r1 x2 x3 x4 x4 y4 s hs hb he0
set_option maxRecDepth 100000 in
theorem q_Pa_spread_t3 {C : Cx} {nx : Nat} (hnx : 80 ≤ nx) {Qr : Option Value → Hp → Prop} {Qx : String → Hp → Prop}  (r0 : Nat) (h_r0 : isPaths r0) (r1 : Nat) (h_r1 : isRowW nx r1) (x2 : Int) (x3 : Int) (x4 : Int) (s : Sg) {o : ((Int × Sg) ⊕ (Sg))} (hs : Pa_spread_t3 r0 r1 x2 x3 x4 s = some o) (hb : ∀ σ : Int × Sg, o = .inl σ → ww C M_X8_spread 2 0 0 nx (Qr) (Qx) nx 0 0 3 [(0, .ref r0), (1, .ref r1), (2, vi x2), (3, vi x3), (4, vi σ.1)] [] (hp nx σ.2)) (he0 : ∀ ρ : Sg, o = .inr ρ → ww C M_X8_spread 2 0 0 nx (Qr) (Qx) nx 0 0 67 [(0, .ref r0), (1, .ref r1)] [] (hp nx ρ)) : ww C M_X8_spread 2 0 0 nx (Qr) (Qx) nx 0 0 3 [(0, .ref r0), (1, .ref r1), (2, vi x2), (3, vi x3), (4, vi x4)] [] (hp nx s) := by
  unfold Pa_spread_t3 at hs
  refine w_iload 4 dX8_spread_3 rfl ?_
  refine w_aload_n 0 dX8_spread_5 rfl rfl ?_
  refine x_getR 8 0 (b := 1) dX8_spread_6 (fxX8_9 rfl) rfl (paths_s0 h_r0) (paths_n (j := 0) h_r0 (by decide) hnx) (paths_r0 h_r0) ?_
  refine x_getI 5 4 dX8_spread_9 (fxX8_25 rfl) rfl rfl (lt_of hnx (Nat.le_of_ble_eq_true rfl)) ?_
  refine x_icmpge hs dX8_spread_12 rfl (fun hs => ?_) (fun hs => ?_)
  · refine w_lv (lv' := [(0, .ref r0), (1, .ref r1)]) [0, 1] rfl ?_
    cases hs
    exact he0 _ rfl
  · refine w_aload_n 0 dX8_spread_15 rfl rfl ?_
    refine x_getR 8 0 (b := 1) dX8_spread_16 (fxX8_9 rfl) rfl (paths_s0 h_r0) (paths_n (j := 0) h_r0 (by decide) hnx) (paths_r0 h_r0) ?_
    refine w_iload 4 dX8_spread_19 rfl ?_
    refine w_iload_n 2 dX8_spread_21 rfl rfl ?_
    refine x_V_I M_X5_edges [vi x4, vi x2] [] hs rfl dX8_spread_22 (lkX8_42 _ rfl) (lt_of hnx (Nat.le_of_ble_eq_true rfl)) rfl rfl (Nat.le_of_ble_eq_true rfl) (Nat.le_of_ble_eq_true rfl) (Nat.le_of_ble_eq_true rfl) (Nat.le_of_ble_eq_true rfl) (c_Gr_edges hnx x4 x2 s) (fun y1 hy1 hs => ?_)
    refine w_iload_n 3 dX8_spread_25 rfl rfl ?_
    refine x_iand dX8_spread_26 ?_
    refine x_ifeq hs dX8_spread_27 rfl (fun hs => ?_) (fun hs => ?_)
    · refine x_iconst dX8_spread_34 ?_
      exact q_Pa_spread_b35 hnx r0 h_r0 r1 h_r1 x2 x3 x4 0 s hs hb he0
    · refine x_iconst dX8_spread_30 ?_
      refine w_goto dX8_spread_31 rfl ?_
      exact q_Pa_spread_b35 hnx r0 h_r0 r1 h_r1 x2 x3 x4 1 s hs hb he0
set_option maxRecDepth 100000 in
theorem q_Pa_spread_t91 {C : Cx} {nx : Nat} (hnx : 80 ≤ nx) {Qr : Option Value → Hp → Prop} {Qx : String → Hp → Prop}  (r0 : Nat) (h_r0 : isPaths r0) (r1 : Nat) (h_r1 : isRowW nx r1) (x4 : Int) (x5 : Int) (x6 : Int) (s : Sg) {o : ((Int × Int × Sg) ⊕ (Int × Sg))} (hs : Pa_spread_t91 r0 r1 x4 x5 x6 s = some o) (hb : ∀ σ : Int × Int × Sg, o = .inl σ → ww C M_X8_spread 2 0 0 nx (Qr) (Qx) nx 0 0 91 [(0, .ref r0), (1, .ref r1), (4, vi σ.1), (5, vi x5), (6, vi σ.2.1)] [] (hp nx σ.2.2)) (he0 : ∀ ρ : Int × Sg, o = .inr ρ → ww C M_X8_spread 2 0 0 nx (Qr) (Qx) nx 0 0 121 [(0, .ref r0), (1, .ref r1), (4, vi ρ.1), (5, vi x5)] [] (hp nx ρ.2)) : ww C M_X8_spread 2 0 0 nx (Qr) (Qx) nx 0 0 91 [(0, .ref r0), (1, .ref r1), (4, vi x4), (5, vi x5), (6, vi x6)] [] (hp nx s) := by
  unfold Pa_spread_t91 at hs
  refine w_iload 4 dX8_spread_91 rfl ?_
  refine w_aload_n 0 dX8_spread_93 rfl rfl ?_
  refine x_getR 8 0 (b := 1) dX8_spread_94 (fxX8_9 rfl) rfl (paths_s0 h_r0) (paths_n (j := 0) h_r0 (by decide) hnx) (paths_r0 h_r0) ?_
  refine x_getI 5 4 dX8_spread_97 (fxX8_25 rfl) rfl rfl (lt_of hnx (Nat.le_of_ble_eq_true rfl)) ?_
  refine x_icmpge hs dX8_spread_100 rfl (fun hs => ?_) (fun hs => ?_)
  · refine w_lv (lv' := [(0, .ref r0), (1, .ref r1), (4, vi x4), (5, vi x5)]) [0, 1, 2, 3] rfl ?_
    cases hs
    exact he0 _ rfl
  · refine w_iload 2 dX8_spread_103 rfl ?_
    refine w_aload_n 0 dX8_spread_105 rfl rfl ?_
    refine w_aload_n 1 dX8_spread_106 rfl rfl ?_
    refine w_iload 4 dX8_spread_107 rfl ?_
    refine x_V_B M_X8_lower [.ref r1, vi x6] [vi x4] hs rfl dX8_spread_109 (lkX8_46 _ rfl) (paths_n (j := 0) h_r0 (by decide) hnx) (paths_s0 h_r0) rfl (Nat.le_of_ble_eq_true rfl) (Nat.le_of_ble_eq_true rfl) (Nat.le_of_ble_eq_true rfl) (Nat.le_of_ble_eq_true rfl) (c_Pa_lower hnx r0 h_r0 r1 h_r1 x6 s) (fun y6 s7 hy6 hs => ?_)
    refine x_ior dX8_spread_112 ?_
    refine x_istore (fun x4_8 => [(4, vi x4_8), (0, .ref r0), (1, .ref r1), (5, vi x5), (6, vi x6)]) hs dX8_spread_113 (Nat.le_of_ble_eq_true rfl) (fun _ => rfl) (fun x4_8 hs => ?_)
    refine x_iinc (lv' := [(6, vi (x6 + 1)), (4, vi x4_8), (0, .ref r0), (1, .ref r1), (5, vi x5)]) 4 dX8_spread_115 rfl (Nat.le_of_ble_eq_true rfl) rfl ?_
    refine w_goto dX8_spread_118 rfl ?_
    refine w_lv (lv' := [(0, .ref r0), (1, .ref r1), (4, vi x4_8), (5, vi x5), (6, vi (x6 + 1))]) [2, 3, 1, 4, 0] rfl ?_
    cases hs
    exact hb _ rfl
set_option maxRecDepth 100000 in
theorem q_Pa_spread_l91 {C : Cx} {nx : Nat} (hnx : 80 ≤ nx) {Qr : Option Value → Hp → Prop} {Qx : String → Hp → Prop}  (r0 : Nat) (h_r0 : isPaths r0) (r1 : Nat) (h_r1 : isRowW nx r1) (x4 : Int) (x5 : Int) (x6 : Int) (s : Sg) {o : ((Int × Int × Sg) ⊕ (Sg))} (hs : Pa_spread_l91 r0 r1 x4 x5 x6 s = some o) (hb : ∀ σ : Int × Int × Sg, o = .inl σ → ww C M_X8_spread 2 0 0 nx (Qr) (Qx) nx 0 0 73 [(0, .ref r0), (1, .ref r1), (4, vi σ.1), (5, vi σ.2.1)] [] (hp nx σ.2.2)) (he0 : ∀ ρ : Sg, o = .inr ρ → ww C M_X8_spread 2 0 0 nx (Qr) (Qx) nx 0 0 127 [] [] (hp nx ρ)) : ww C M_X8_spread 2 0 0 nx (Qr) (Qx) nx 0 0 91 [(0, .ref r0), (1, .ref r1), (4, vi x4), (5, vi x5), (6, vi x6)] [] (hp nx s) := by
  unfold Pa_spread_l91 at hs
  refine bnd_e hs (fun ρ hw hs => ?_)
  obtain ⟨x4_9, s_10⟩ := ρ
  have hE : ww C M_X8_spread 2 0 0 nx (Qr) (Qx) nx 0 0 121 [(0, .ref r0), (1, .ref r1), (4, vi x4_9), (5, vi x5)] [] (hp nx s_10) := by
    refine x_iinc (lv' := [(5, vi (x5 + 1)), (0, .ref r0), (1, .ref r1), (4, vi x4_9)]) 3 dX8_spread_121 rfl (Nat.le_of_ble_eq_true rfl) rfl ?_
    refine w_goto dX8_spread_124 rfl ?_
    refine w_lv (lv' := [(0, .ref r0), (1, .ref r1), (4, vi x4_9), (5, vi (x5 + 1))]) [1, 2, 3, 0] rfl ?_
    cases hs
    exact hb _ rfl
  refine whl_w (P := fun σ => ww C M_X8_spread 2 0 0 nx (Qr) (Qx) nx 0 0 91 [(0, .ref r0), (1, .ref r1), (4, vi σ.1), (5, vi x5), (6, vi σ.2.1)] [] (hp nx σ.2.2)) (E := fun ρ => ρ = (x4_9, s_10)) hw rfl ?_
  intro σ o' hs' hb' he'
  exact q_Pa_spread_t91 hnx r0 h_r0 r1 h_r1 σ.1 x5 σ.2.1 σ.2.2 hs' hb' (fun ρ e => by cases he' _ e; exact hE)
set_option maxRecDepth 100000 in
theorem q_Pa_spread_t73 {C : Cx} {nx : Nat} (hnx : 80 ≤ nx) {Qr : Option Value → Hp → Prop} {Qx : String → Hp → Prop}  (r0 : Nat) (h_r0 : isPaths r0) (r1 : Nat) (h_r1 : isRowW nx r1) (x4 : Int) (x5 : Int) (s : Sg) {o : ((Int × Int × Sg) ⊕ (Sg))} (hs : Pa_spread_t73 r0 r1 x4 x5 s = some o) (hb : ∀ σ : Int × Int × Sg, o = .inl σ → ww C M_X8_spread 2 0 0 nx (Qr) (Qx) nx 0 0 73 [(0, .ref r0), (1, .ref r1), (4, vi σ.1), (5, vi σ.2.1)] [] (hp nx σ.2.2)) (he0 : ∀ ρ : Sg, o = .inr ρ → ww C M_X8_spread 2 0 0 nx (Qr) (Qx) nx 0 0 127 [] [] (hp nx ρ)) : ww C M_X8_spread 2 0 0 nx (Qr) (Qx) nx 0 0 73 [(0, .ref r0), (1, .ref r1), (4, vi x4), (5, vi x5)] [] (hp nx s) := by
  unfold Pa_spread_t73 at hs
  refine w_iload 3 dX8_spread_73 rfl ?_
  refine x_bipush dX8_spread_75 (by decide) ?_
  refine x_icmpge hs dX8_spread_77 rfl (fun hs => ?_) (fun hs => ?_)
  · refine w_lv (lv' := []) [] rfl ?_
    cases hs
    exact he0 _ rfl
  · refine w_iload 2 dX8_spread_80 rfl ?_
    refine x_ifeq hs dX8_spread_82 rfl (fun hs => ?_) (fun hs => ?_)
    · refine w_lv (lv' := []) [] rfl ?_
      cases hs
      exact he0 _ rfl
    · refine x_iconst dX8_spread_85 ?_
      refine w_istore (lv' := [(4, vi 0), (0, .ref r0), (1, .ref r1), (5, vi x5)]) dX8_spread_86 (Nat.le_of_ble_eq_true rfl) rfl ?_
      refine x_iconst dX8_spread_88 ?_
      refine w_istore (lv' := [(6, vi 0), (4, vi 0), (0, .ref r0), (1, .ref r1), (5, vi x5)]) dX8_spread_89 (Nat.le_of_ble_eq_true rfl) rfl ?_
      refine w_lv (lv' := [(0, .ref r0), (1, .ref r1), (4, vi 0), (5, vi x5), (6, vi 0)]) [2, 3, 1, 4, 0] rfl ?_
      exact q_Pa_spread_l91 hnx r0 h_r0 r1 h_r1 0 x5 0 s hs hb he0
set_option maxRecDepth 100000 in
theorem q_Pa_spread_l73 {C : Cx} {nx : Nat} (hnx : 80 ≤ nx) (r0 : Nat) (h_r0 : isPaths r0) (r1 : Nat) (h_r1 : isRowW nx r1) (x4 : Int) (x5 : Int) (s : Sg) {o : Sg} (hs : Pa_spread_l73 r0 r1 x4 x5 s = some o) : ww C M_X8_spread 2 0 0 nx (QV nx o) (XF) nx 0 0 73 [(0, .ref r0), (1, .ref r1), (4, vi x4), (5, vi x5)] [] (hp nx s) := by
  unfold Pa_spread_l73 at hs
  refine bnd_e hs (fun s_11 hw hs => ?_)
  have hE : ww C M_X8_spread 2 0 0 nx (QV nx o) (XF) nx 0 0 127 [] [] (hp nx s_11) := by
    cases hs
    exact w_return rfl dX8_spread_127 rfl (Nat.le_of_ble_eq_true rfl) (Nat.le_of_ble_eq_true rfl) ⟨rfl, rfl⟩
  refine whl_w (P := fun σ => ww C M_X8_spread 2 0 0 nx (QV nx o) (XF) nx 0 0 73 [(0, .ref r0), (1, .ref r1), (4, vi σ.1), (5, vi σ.2.1)] [] (hp nx σ.2.2)) (E := fun ρ => ρ = s_11) hw rfl ?_
  intro σ o' hs' hb' he'
  exact q_Pa_spread_t73 hnx r0 h_r0 r1 h_r1 σ.1 σ.2.1 σ.2.2 hs' hb' (fun ρ e => by cases he' _ e; exact hE)
set_option maxRecDepth 100000 in
theorem q_Pa_spread_l3 {C : Cx} {nx : Nat} (hnx : 80 ≤ nx) (r0 : Nat) (h_r0 : isPaths r0) (r1 : Nat) (h_r1 : isRowW nx r1) (x2 : Int) (x3 : Int) (x4 : Int) (s : Sg) {o : Sg} (hs : Pa_spread_l3 r0 r1 x2 x3 x4 s = some o) : ww C M_X8_spread 2 0 0 nx (QV nx o) (XF) nx 0 0 3 [(0, .ref r0), (1, .ref r1), (2, vi x2), (3, vi x3), (4, vi x4)] [] (hp nx s) := by
  unfold Pa_spread_l3 at hs
  refine bnd_e hs (fun s_5 hw hs => ?_)
  have hE : ww C M_X8_spread 2 0 0 nx (QV nx o) (XF) nx 0 0 67 [(0, .ref r0), (1, .ref r1)] [] (hp nx s_5) := by
    refine x_iconst dX8_spread_67 ?_
    refine w_istore (lv' := [(4, vi 1), (0, .ref r0), (1, .ref r1)]) dX8_spread_68 (Nat.le_of_ble_eq_true rfl) rfl ?_
    refine x_iconst dX8_spread_70 ?_
    refine w_istore (lv' := [(5, vi 0), (4, vi 1), (0, .ref r0), (1, .ref r1)]) dX8_spread_71 (Nat.le_of_ble_eq_true rfl) rfl ?_
    refine w_lv (lv' := [(0, .ref r0), (1, .ref r1), (4, vi 1), (5, vi 0)]) [2, 3, 1, 0] rfl ?_
    exact q_Pa_spread_l73 hnx r0 h_r0 r1 h_r1 1 0 s_5 hs
  refine whl_w (P := fun σ => ww C M_X8_spread 2 0 0 nx (QV nx o) (XF) nx 0 0 3 [(0, .ref r0), (1, .ref r1), (2, vi x2), (3, vi x3), (4, vi σ.1)] [] (hp nx σ.2)) (E := fun ρ => ρ = s_5) hw rfl ?_
  intro σ o' hs' hb' he'
  exact q_Pa_spread_t3 hnx r0 h_r0 r1 h_r1 x2 x3 σ.1 σ.2 hs' hb' (fun ρ e => by cases he' _ e; exact hE)
set_option maxRecDepth 100000 in
theorem c_Pa_spread {C : Cx} {nx : Nat} (hnx : 80 ≤ nx) (r0 : Nat) (h_r0 : isPaths r0) (r1 : Nat) (h_r1 : isRowW nx r1) (x2 : Int) (x3 : Int) (s : Sg) : ∀ o, Pa_spread r0 r1 x2 x3 s = some o → mm C M_X8_spread 2 0 0 nx nx [.ref r0, .ref r1, vi x2, vi x3] (hp nx s) (QV nx o) (XF) := by
  intro o hs
  unfold Pa_spread at hs
  refine mm_of rfl rfl (Nat.le_of_ble_eq_true rfl) ?_
  show ww C M_X8_spread 2 0 0 nx (QV nx o) (XF) nx 0 0 0 [(0, .ref r0), (1, .ref r1), (2, vi x2), (3, vi x3)] [] (hp nx s)
  refine x_iconst dX8_spread_0 ?_
  refine w_istore (lv' := [(4, vi 0), (0, .ref r0), (1, .ref r1), (2, vi x2), (3, vi x3)]) dX8_spread_1 (Nat.le_of_ble_eq_true rfl) rfl ?_
  refine w_lv (lv' := [(0, .ref r0), (1, .ref r1), (2, vi x2), (3, vi x3), (4, vi 0)]) [1, 2, 3, 4, 0] rfl ?_
  exact q_Pa_spread_l3 hnx r0 h_r0 r1 h_r1 x2 x3 0 s hs
set_option maxRecDepth 100000 in
theorem q_Pa_find_b46 {C : Cx} {nx : Nat} (hnx : 80 ≤ nx) {Qr : Option Value → Hp → Prop} {Qx : String → Hp → Prop}  (r0 : Nat) (h_r0 : isPaths r0) (r1 : Nat) (h_r1 : isRow nx r1) (x2 : Int) (x3 : Int) (t1 : Int) (t2 : Int) (s : Sg) {o : ((Int × Sg) ⊕ (Sg))} (hs : Pa_find_b46 r0 r1 x2 x3 t1 t2 s = some o) (hb : ∀ σ : Int × Sg, o = .inl σ → ww C M_X8_find 3 0 0 nx (Qr) (Qx) nx 0 0 2 [(0, .ref r0), (1, .ref r1), (2, vi x2), (3, vi σ.1)] [] (hp nx σ.2)) (he0 : ∀ ρ : Sg, o = .inr ρ → ww C M_X8_find 3 0 0 nx (Qr) (Qx) nx 0 0 55 [(0, .ref r0), (2, vi x2)] [] (hp nx ρ)) : ww C M_X8_find 3 0 0 nx (Qr) (Qx) nx 0 0 46 [(0, .ref r0), (1, .ref r1), (2, vi x2), (3, vi x3)] [vi t2, vi t1, .ref (r0 + 1)] (hp nx s) := by
  unfold Pa_find_b46 at hs
  refine x_N_V M_X11_set [.ref (r0 + 1), vi t1, vi t2] [] hs rfl dX8_find_46 (lkX8_35 _ rfl) (Nat.le_of_ble_eq_true rfl) (Nat.le_of_ble_eq_true rfl) (Nat.le_of_ble_eq_true rfl) (Nat.le_of_ble_eq_true rfl) (c_Hx_set hnx (r0 + 1) (rowW_of (paths_s1 h_r0) (paths_n (j := 1) h_r0 (by decide) hnx)) t1 t2 s) (fun s3 hs3 hs => ?_)
  refine x_iinc (lv' := [(3, vi (x3 + 1)), (0, .ref r0), (1, .ref r1), (2, vi x2)]) 3 dX8_find_49 rfl (Nat.le_of_ble_eq_true rfl) rfl ?_
  refine w_goto dX8_find_52 rfl ?_
  refine w_lv (lv' := [(0, .ref r0), (1, .ref r1), (2, vi x2), (3, vi (x3 + 1))]) [1, 2, 3, 0] rfl ?_
  cases hs
  exact hb _ rfl
set_option maxRecDepth 100000 in
theorem q_Pa_find_t2 {C : Cx} {nx : Nat} (hnx : 80 ≤ nx) {Qr : Option Value → Hp → Prop} {Qx : String → Hp → Prop}  (r0 : Nat) (h_r0 : isPaths r0) (r1 : Nat) (h_r1 : isRow nx r1) (x2 : Int) (x3 : Int) (s : Sg) {o : ((Int × Sg) ⊕ (Sg))} (hs : Pa_find_t2 r0 r1 x2 x3 s = some o) (hb : ∀ σ : Int × Sg, o = .inl σ → ww C M_X8_find 3 0 0 nx (Qr) (Qx) nx 0 0 2 [(0, .ref r0), (1, .ref r1), (2, vi x2), (3, vi σ.1)] [] (hp nx σ.2)) (he0 : ∀ ρ : Sg, o = .inr ρ → ww C M_X8_find 3 0 0 nx (Qr) (Qx) nx 0 0 55 [(0, .ref r0), (2, vi x2)] [] (hp nx ρ)) : ww C M_X8_find 3 0 0 nx (Qr) (Qx) nx 0 0 2 [(0, .ref r0), (1, .ref r1), (2, vi x2), (3, vi x3)] [] (hp nx s) := by
  unfold Pa_find_t2 at hs
  refine w_iload_n 3 dX8_find_2 rfl rfl ?_
  refine w_aload_n 0 dX8_find_3 rfl rfl ?_
  refine x_getR 8 0 (b := 1) dX8_find_4 (fxX8_9 rfl) rfl (paths_s0 h_r0) (paths_n (j := 0) h_r0 (by decide) hnx) (paths_r0 h_r0) ?_
  refine x_getI 5 4 dX8_find_7 (fxX8_25 rfl) rfl rfl (lt_of hnx (Nat.le_of_ble_eq_true rfl)) ?_
  refine x_icmpge hs dX8_find_10 rfl (fun hs => ?_) (fun hs => ?_)
  · refine w_lv (lv' := [(0, .ref r0), (2, vi x2)]) [0, 2] rfl ?_
    cases hs
    exact he0 _ rfl
  · refine w_aload_n 1 dX8_find_13 rfl rfl ?_
    refine w_iload_n 3 dX8_find_14 rfl rfl ?_
    refine x_N_I M_X11_at [.ref r1, vi x3] [] hs rfl dX8_find_15 (lkX8_31 _ rfl) (Nat.le_of_ble_eq_true rfl) (Nat.le_of_ble_eq_true rfl) (Nat.le_of_ble_eq_true rfl) (Nat.le_of_ble_eq_true rfl) (c_Hx_at hnx r1 h_r1 x3 s) (fun y1 hy1 hs => ?_)
    refine w_istore (lv' := [(4, vi y1), (0, .ref r0), (1, .ref r1), (2, vi x2), (3, vi x3)]) dX8_find_18 (Nat.le_of_ble_eq_true rfl) rfl ?_
    refine w_aload_n 1 dX8_find_20 rfl rfl ?_
    refine x_getR 8 1 (b := (r0 + 1)) dX8_find_21 (fxX8_15 rfl) rfl (paths_s0 h_r0) (paths_n (j := 0) h_r0 (by decide) hnx) (paths_r1 h_r0) ?_
    refine w_iload_n 4 dX8_find_24 rfl rfl ?_
    refine w_iload 0 dX8_find_25 rfl ?_
    refine x_iconst dX8_find_27 ?_
    refine x_icmpne hs dX8_find_28 rfl (fun hs => ?_) (fun hs => ?_)
    · refine w_iload 0 dX8_find_35 rfl ?_
      refine w_iload_n 3 dX8_find_37 rfl rfl ?_
      refine x_icmpne hs dX8_find_38 rfl (fun hs => ?_) (fun hs => ?_)
      · refine x_iconst dX8_find_45 ?_
        refine w_lv (lv' := [(0, .ref r0), (1, .ref r1), (2, vi x2), (3, vi x3)]) [1, 2, 3, 4] rfl ?_
        exact q_Pa_find_b46 hnx r0 h_r0 r1 h_r1 x2 x3 x3 (-1) s hs hb he0
      · refine x_iconst dX8_find_41 ?_
        refine w_goto dX8_find_42 rfl ?_
        refine w_lv (lv' := [(0, .ref r0), (1, .ref r1), (2, vi x2), (3, vi x3)]) [1, 2, 3, 4] rfl ?_
        exact q_Pa_find_b46 hnx r0 h_r0 r1 h_r1 x2 x3 x3 0 s hs hb he0
    · refine x_iconst dX8_find_31 ?_
      refine w_goto dX8_find_32 rfl ?_
      refine w_lv (lv' := [(0, .ref r0), (1, .ref r1), (2, vi x2), (3, vi x3)]) [1, 2, 3, 4] rfl ?_
      exact q_Pa_find_b46 hnx r0 h_r0 r1 h_r1 x2 x3 x3 1 s hs hb he0
set_option maxRecDepth 100000 in
theorem q_Pa_find_l2 {C : Cx} {nx : Nat} (hnx : 80 ≤ nx) (r0 : Nat) (h_r0 : isPaths r0) (r1 : Nat) (h_r1 : isRow nx r1) (x2 : Int) (x3 : Int) (s : Sg) {o : Sg} (hs : Pa_find_l2 r0 r1 x2 x3 s = some o) : ww C M_X8_find 3 0 0 nx (QV nx o) (XF) nx 0 0 2 [(0, .ref r0), (1, .ref r1), (2, vi x2), (3, vi x3)] [] (hp nx s) := by
  unfold Pa_find_l2 at hs
  refine bnd_e hs (fun s_4 hw hs => ?_)
  have hE : ww C M_X8_find 3 0 0 nx (QV nx o) (XF) nx 0 0 55 [(0, .ref r0), (2, vi x2)] [] (hp nx s_4) := by
    refine w_aload_n 0 dX8_find_55 rfl rfl ?_
    refine w_aload_n 0 dX8_find_56 rfl rfl ?_
    refine x_getR 8 2 (b := (r0 + 2)) dX8_find_57 (fxX8_19 rfl) rfl (paths_s0 h_r0) (paths_n (j := 0) h_r0 (by decide) hnx) (paths_r2 h_r0) ?_
    refine w_iload_n 1 dX8_find_60 rfl rfl ?_
    refine x_iconst dX8_find_61 ?_
    refine x_V_V M_X8_spread [.ref (r0 + 2), vi x2, vi 1] [] hs rfl dX8_find_62 (lkX8_39 _ rfl) (paths_n (j := 0) h_r0 (by decide) hnx) (paths_s0 h_r0) rfl (Nat.le_of_ble_eq_true rfl) (Nat.le_of_ble_eq_true rfl) (Nat.le_of_ble_eq_true rfl) (Nat.le_of_ble_eq_true rfl) (c_Pa_spread hnx r0 h_r0 (r0 + 2) (rowW_of (paths_s2 h_r0) (paths_n (j := 2) h_r0 (by decide) hnx)) x2 1 s_4) (fun s6 hs6 hs => ?_)
    refine w_aload_n 0 dX8_find_65 rfl rfl ?_
    refine w_aload_n 0 dX8_find_66 rfl rfl ?_
    refine x_getR 8 3 (b := (r0 + 3)) dX8_find_67 (fxX8_22 rfl) rfl (paths_s0 h_r0) (paths_n (j := 0) h_r0 (by decide) hnx) (paths_r3 h_r0) ?_
    refine w_iload_n 1 dX8_find_70 rfl rfl ?_
    refine x_iconst dX8_find_71 ?_
    refine x_V_V M_X8_spread [.ref (r0 + 3), vi x2, vi 2] [] hs rfl dX8_find_72 (lkX8_39 _ rfl) (paths_n (j := 0) h_r0 (by decide) hnx) (paths_s0 h_r0) rfl (Nat.le_of_ble_eq_true rfl) (Nat.le_of_ble_eq_true rfl) (Nat.le_of_ble_eq_true rfl) (Nat.le_of_ble_eq_true rfl) (c_Pa_spread hnx r0 h_r0 (r0 + 3) (rowW_of (paths_s3 h_r0) (paths_n (j := 3) h_r0 (by decide) hnx)) x2 2 s6) (fun s8 hs8 hs => ?_)
    cases hs
    exact w_return rfl dX8_find_75 rfl (Nat.le_of_ble_eq_true rfl) (Nat.le_of_ble_eq_true rfl) ⟨rfl, rfl⟩
  refine whl_w (P := fun σ => ww C M_X8_find 3 0 0 nx (QV nx o) (XF) nx 0 0 2 [(0, .ref r0), (1, .ref r1), (2, vi x2), (3, vi σ.1)] [] (hp nx σ.2)) (E := fun ρ => ρ = s_4) hw rfl ?_
  intro σ o' hs' hb' he'
  exact q_Pa_find_t2 hnx r0 h_r0 r1 h_r1 x2 σ.1 σ.2 hs' hb' (fun ρ e => by cases he' _ e; exact hE)
set_option maxRecDepth 100000 in
theorem c_Pa_find {C : Cx} {nx : Nat} (hnx : 80 ≤ nx) (r0 : Nat) (h_r0 : isPaths r0) (r1 : Nat) (h_r1 : isRow nx r1) (x2 : Int) (s : Sg) : ∀ o, Pa_find r0 r1 x2 s = some o → mm C M_X8_find 3 0 0 nx nx [.ref r0, .ref r1, vi x2] (hp nx s) (QV nx o) (XF) := by
  intro o hs
  unfold Pa_find at hs
  refine mm_of rfl rfl (Nat.le_of_ble_eq_true rfl) ?_
  show ww C M_X8_find 3 0 0 nx (QV nx o) (XF) nx 0 0 0 [(0, .ref r0), (1, .ref r1), (2, vi x2)] [] (hp nx s)
  refine x_iconst dX8_find_0 ?_
  refine w_istore_n (lv' := [(3, vi 0), (0, .ref r0), (1, .ref r1), (2, vi x2)]) dX8_find_1 rfl (Nat.le_of_ble_eq_true rfl) rfl ?_
  refine w_lv (lv' := [(0, .ref r0), (1, .ref r1), (2, vi x2), (3, vi 0)]) [1, 2, 3, 0] rfl ?_
  exact q_Pa_find_l2 hnx r0 h_r0 r1 h_r1 x2 0 s hs
set_option maxRecDepth 100000 in
theorem q_Hx_pathsOf_b15 {C : Cx} {nx : Nat} (hnx : 80 ≤ nx) (x1 : Int) (u_0 : Nat) (h_u_0 : isPaths u_0) (s : Sg) {o : Nat × Sg} (hs : Hx_pathsOf_b15 x1 u_0 s = some o) : ww C M_X11_pathsOf 4 0 0 nx (QA nx o.2 o.1) (XF) nx 0 0 15 [(0, .ref 0), (1, vi x1)] [.ref u_0] (hp nx s) := by
  unfold Hx_pathsOf_b15 at hs
  refine w_astore_n (lv' := [(2, .ref u_0), (0, .ref 0), (1, vi x1)]) dX11_pathsOf_15 rfl (Nat.le_of_ble_eq_true rfl) rfl ?_
  refine w_aload_n 0 dX11_pathsOf_16 rfl rfl ?_
  refine w_aload_n 1 dX11_pathsOf_17 rfl rfl ?_
  refine x_getR 11 2 (b := 10) dX11_pathsOf_18 (fxX11_28 rfl) rfl rfl (lt_of hnx (Nat.le_of_ble_eq_true rfl)) rfl ?_
  refine x_getR 9 0 (b := 11) dX11_pathsOf_21 (fxX11_194 rfl) rfl rfl (lt_of hnx (Nat.le_of_ble_eq_true rfl)) rfl ?_
  refine w_iload_n 2 dX11_pathsOf_24 rfl rfl ?_
  refine x_V_V M_X8_find [.ref 11, vi x1] [] hs rfl dX11_pathsOf_25 (lkX11_380 _ rfl) (paths_n (j := 0) h_u_0 (by decide) hnx) (paths_s0 h_u_0) rfl (Nat.le_of_ble_eq_true rfl) (Nat.le_of_ble_eq_true rfl) (Nat.le_of_ble_eq_true rfl) (Nat.le_of_ble_eq_true rfl) (c_Pa_find hnx u_0 h_u_0 11 (Or.inl (rowW_of rfl (lt_of hnx (Nat.le_of_ble_eq_true rfl)))) x1 s) (fun s2 hs2 hs => ?_)
  refine w_aload_n 0 dX11_pathsOf_28 rfl rfl ?_
  cases hs
  exact w_areturn rfl rfl dX11_pathsOf_29 rfl (Nat.le_of_ble_eq_true rfl) (Nat.le_of_ble_eq_true rfl) ⟨rfl, rfl⟩
set_option maxRecDepth 100000 in
theorem c_Hx_pathsOf {C : Cx} {nx : Nat} (hnx : 80 ≤ nx) (x1 : Int) (s : Sg) : ∀ o, Hx_pathsOf x1 s = some o → mm C M_X11_pathsOf 4 0 0 nx nx [.ref 0, vi x1] (hp nx s) (QA nx o.2 o.1) (XF) := by
  intro o hs
  unfold Hx_pathsOf at hs
  refine mm_of rfl rfl (Nat.le_of_ble_eq_true rfl) ?_
  show ww C M_X11_pathsOf 4 0 0 nx (QA nx o.2 o.1) (XF) nx 0 0 0 [(0, .ref 0), (1, vi x1)] [] (hp nx s)
  refine w_iload_n 1 dX11_pathsOf_0 rfl rfl ?_
  refine x_ifne hs dX11_pathsOf_1 rfl (fun hs => ?_) (fun hs => ?_)
  · refine w_aload_n 0 dX11_pathsOf_11 rfl rfl ?_
    refine x_getR 11 12 (b := 67) dX11_pathsOf_12 (fxX11_83 rfl) rfl rfl (lt_of hnx (Nat.le_of_ble_eq_true rfl)) rfl ?_
    exact q_Hx_pathsOf_b15 hnx x1 67 (Or.inr rfl) s hs
  · refine w_aload_n 0 dX11_pathsOf_4 rfl rfl ?_
    refine x_getR 11 11 (b := 63) dX11_pathsOf_5 (fxX11_79 rfl) rfl rfl (lt_of hnx (Nat.le_of_ble_eq_true rfl)) rfl ?_
    refine w_goto dX11_pathsOf_8 rfl ?_
    exact q_Hx_pathsOf_b15 hnx x1 63 (Or.inl rfl) s hs
set_option maxRecDepth 100000 in
theorem q_Pa_cost_b28 {C : Cx} {nx : Nat} (hnx : 80 ≤ nx)  (s : Sg) {o : Int} (hs : Pa_cost_b28  s = some o) : ww C M_X8_cost 1 0 0 nx (QI nx s o) (XF) nx 0 0 28 [] [] (hp nx s) := by
  unfold Pa_cost_b28 at hs
  refine x_iconst dX8_cost_28 ?_
  refine w_goto dX8_cost_29 rfl ?_
  cases hs
  exact x_ireturn dX8_cost_44 rfl rfl (Nat.le_of_ble_eq_true rfl) (Nat.le_of_ble_eq_true rfl) ⟨rfl, rfl⟩
set_option maxRecDepth 100000 in
theorem c_Pa_cost {C : Cx} {nx : Nat} (hnx : 80 ≤ nx) (r0 : Nat) (h_r0 : isPaths r0) (x1 : Int) (s : Sg) : ∀ o, Pa_cost r0 x1 s = some o → mm C M_X8_cost 1 0 0 nx nx [.ref r0, vi x1] (hp nx s) (QI nx s o) (XF) := by
  intro o hs
  unfold Pa_cost at hs
  refine mm_of rfl rfl (Nat.le_of_ble_eq_true rfl) ?_
  show ww C M_X8_cost 1 0 0 nx (QI nx s o) (XF) nx 0 0 0 [(0, .ref r0), (1, vi x1)] [] (hp nx s)
  refine w_aload_n 0 dX8_cost_0 rfl rfl ?_
  refine x_getR 8 2 (b := (r0 + 2)) dX8_cost_1 (fxX8_19 rfl) rfl (paths_s0 h_r0) (paths_n (j := 0) h_r0 (by decide) hnx) (paths_r2 h_r0) ?_
  refine w_iload_n 1 dX8_cost_4 rfl rfl ?_
  refine x_N_I M_X11_at [.ref (r0 + 2), vi x1] [] hs rfl dX8_cost_5 (lkX8_31 _ rfl) (Nat.le_of_ble_eq_true rfl) (Nat.le_of_ble_eq_true rfl) (Nat.le_of_ble_eq_true rfl) (Nat.le_of_ble_eq_true rfl) (c_Hx_at hnx (r0 + 2) (Or.inl (rowW_of (paths_s2 h_r0) (paths_n (j := 2) h_r0 (by decide) hnx))) x1 s) (fun y1 hy1 hs => ?_)
  refine w_istore_n (lv' := [(2, vi y1), (0, .ref r0), (1, vi x1)]) dX8_cost_8 rfl (Nat.le_of_ble_eq_true rfl) rfl ?_
  refine w_aload_n 1 dX8_cost_9 rfl rfl ?_
  refine x_getR 8 3 (b := (r0 + 3)) dX8_cost_10 (fxX8_22 rfl) rfl (paths_s0 h_r0) (paths_n (j := 0) h_r0 (by decide) hnx) (paths_r3 h_r0) ?_
  refine w_iload_n 2 dX8_cost_13 rfl rfl ?_
  refine x_N_I M_X11_at [.ref (r0 + 3), vi x1] [] hs rfl dX8_cost_14 (lkX8_31 _ rfl) (Nat.le_of_ble_eq_true rfl) (Nat.le_of_ble_eq_true rfl) (Nat.le_of_ble_eq_true rfl) (Nat.le_of_ble_eq_true rfl) (c_Hx_at hnx (r0 + 3) (Or.inl (rowW_of (paths_s3 h_r0) (paths_n (j := 3) h_r0 (by decide) hnx))) x1 s) (fun y2 hy2 hs => ?_)
  refine w_istore_n (lv' := [(3, vi y2), (2, vi y1), (0, .ref r0), (1, vi x1)]) dX8_cost_17 rfl (Nat.le_of_ble_eq_true rfl) rfl ?_
  refine w_iload_n 1 dX8_cost_18 rfl rfl ?_
  refine x_iconst dX8_cost_19 ?_
  refine x_icmpeq hs dX8_cost_20 rfl (fun hs => ?_) (fun hs => ?_)
  · refine w_lv (lv' := []) [] rfl ?_
    exact q_Pa_cost_b28 hnx  s hs
  · refine w_iload_n 0 dX8_cost_23 rfl rfl ?_
    refine x_iconst dX8_cost_24 ?_
    refine x_icmpne hs dX8_cost_25 rfl (fun hs => ?_) (fun hs => ?_)
    · refine w_iload_n 1 dX8_cost_32 rfl rfl ?_
      refine w_iload_n 0 dX8_cost_33 rfl rfl ?_
      refine x_iadd dX8_cost_34 ?_
      refine w_aload_n 2 dX8_cost_35 rfl rfl ?_
      refine x_getR 8 1 (b := (r0 + 1)) dX8_cost_36 (fxX8_15 rfl) rfl (paths_s0 h_r0) (paths_n (j := 0) h_r0 (by decide) hnx) (paths_r1 h_r0) ?_
      refine w_iload_n 3 dX8_cost_39 rfl rfl ?_
      refine x_N_I M_X11_at [.ref (r0 + 1), vi x1] [vi (y1 + y2)] hs rfl dX8_cost_40 (lkX8_31 _ rfl) (Nat.le_of_ble_eq_true rfl) (Nat.le_of_ble_eq_true rfl) (Nat.le_of_ble_eq_true rfl) (Nat.le_of_ble_eq_true rfl) (c_Hx_at hnx (r0 + 1) (Or.inl (rowW_of (paths_s1 h_r0) (paths_n (j := 1) h_r0 (by decide) hnx))) x1 s) (fun y3 hy3 hs => ?_)
      refine x_isub dX8_cost_43 ?_
      cases hs
      exact x_ireturn dX8_cost_44 rfl rfl (Nat.le_of_ble_eq_true rfl) (Nat.le_of_ble_eq_true rfl) ⟨rfl, rfl⟩
    · refine w_lv (lv' := []) [] rfl ?_
      exact q_Pa_cost_b28 hnx  s hs
set_option maxRecDepth 100000 in
theorem q_Pa_least_b38 {C : Cx} {nx : Nat} (hnx : 80 ≤ nx) {Qr : Option Value → Hp → Prop} {Qx : String → Hp → Prop}  (r0 : Nat) (h_r0 : isPaths r0) (x1 : Int) (x2 : Int) (s : Sg) {o : ((Int × Int) ⊕ (Int))} (hs : Pa_least_b38 r0 x1 x2 s = some o) (hb : ∀ σ : Int × Int, o = .inl σ → ww C M_X8_least 2 0 0 nx (Qr) (Qx) nx 0 0 4 [(0, .ref r0), (1, vi σ.1), (2, vi σ.2)] [] (hp nx s)) (he0 : ∀ ρ : Int, o = .inr ρ → ww C M_X8_least 2 0 0 nx (Qr) (Qx) nx 0 0 44 [(1, vi ρ)] [] (hp nx s)) : ww C M_X8_least 2 0 0 nx (Qr) (Qx) nx 0 0 38 [(0, .ref r0), (1, vi x1), (2, vi x2)] [] (hp nx s) := by
  unfold Pa_least_b38 at hs
  refine x_iinc (lv' := [(2, vi (x2 + 1)), (0, .ref r0), (1, vi x1)]) 2 dX8_least_38 rfl (Nat.le_of_ble_eq_true rfl) rfl ?_
  refine w_goto dX8_least_41 rfl ?_
  refine w_lv (lv' := [(0, .ref r0), (1, vi x1), (2, vi (x2 + 1))]) [1, 2, 0] rfl ?_
  cases hs
  exact hb _ rfl
set_option maxRecDepth 100000 in
theorem q_Pa_least_b36 {C : Cx} {nx : Nat} (hnx : 80 ≤ nx) {Qr : Option Value → Hp → Prop} {Qx : String → Hp → Prop}  (r0 : Nat) (h_r0 : isPaths r0) (x2 : Int) (x3 : Int) (s : Sg) {o : ((Int × Int) ⊕ (Int))} (hs : Pa_least_b36 r0 x2 x3 s = some o) (hb : ∀ σ : Int × Int, o = .inl σ → ww C M_X8_least 2 0 0 nx (Qr) (Qx) nx 0 0 4 [(0, .ref r0), (1, vi σ.1), (2, vi σ.2)] [] (hp nx s)) (he0 : ∀ ρ : Int, o = .inr ρ → ww C M_X8_least 2 0 0 nx (Qr) (Qx) nx 0 0 44 [(1, vi ρ)] [] (hp nx s)) : ww C M_X8_least 2 0 0 nx (Qr) (Qx) nx 0 0 36 [(0, .ref r0), (2, vi x2), (3, vi x3)] [] (hp nx s) := by
  unfold Pa_least_b36 at hs
  refine w_iload_n 2 dX8_least_36 rfl rfl ?_
  refine w_istore_n (lv' := [(1, vi x3), (0, .ref r0), (2, vi x2), (3, vi x3)]) dX8_least_37 rfl (Nat.le_of_ble_eq_true rfl) rfl ?_
  refine w_lv (lv' := [(0, .ref r0), (1, vi x3), (2, vi x2)]) [1, 0, 2] rfl ?_
  exact q_Pa_least_b38 hnx r0 h_r0 x3 x2 s hs hb he0
set_option maxRecDepth 100000 in
theorem q_Pa_least_t4 {C : Cx} {nx : Nat} (hnx : 80 ≤ nx) {Qr : Option Value → Hp → Prop} {Qx : String → Hp → Prop}  (r0 : Nat) (h_r0 : isPaths r0) (x1 : Int) (x2 : Int) (s : Sg) {o : ((Int × Int) ⊕ (Int))} (hs : Pa_least_t4 r0 x1 x2 s = some o) (hb : ∀ σ : Int × Int, o = .inl σ → ww C M_X8_least 2 0 0 nx (Qr) (Qx) nx 0 0 4 [(0, .ref r0), (1, vi σ.1), (2, vi σ.2)] [] (hp nx s)) (he0 : ∀ ρ : Int, o = .inr ρ → ww C M_X8_least 2 0 0 nx (Qr) (Qx) nx 0 0 44 [(1, vi ρ)] [] (hp nx s)) : ww C M_X8_least 2 0 0 nx (Qr) (Qx) nx 0 0 4 [(0, .ref r0), (1, vi x1), (2, vi x2)] [] (hp nx s) := by
  unfold Pa_least_t4 at hs
  refine w_iload_n 2 dX8_least_4 rfl rfl ?_
  refine w_aload_n 0 dX8_least_5 rfl rfl ?_
  refine x_getR 8 0 (b := 1) dX8_least_6 (fxX8_9 rfl) rfl (paths_s0 h_r0) (paths_n (j := 0) h_r0 (by decide) hnx) (paths_r0 h_r0) ?_
  refine x_getI 5 4 dX8_least_9 (fxX8_25 rfl) rfl rfl (lt_of hnx (Nat.le_of_ble_eq_true rfl)) ?_
  refine x_icmpge hs dX8_least_12 rfl (fun hs => ?_) (fun hs => ?_)
  · refine w_lv (lv' := [(1, vi x1)]) [1] rfl ?_
    cases hs
    exact he0 _ rfl
  · refine w_aload_n 0 dX8_least_15 rfl rfl ?_
    refine w_iload_n 2 dX8_least_16 rfl rfl ?_
    refine x_V_I M_X8_cost [vi x2] [] hs rfl dX8_least_17 (lkX8_53 _ rfl) (paths_n (j := 0) h_r0 (by decide) hnx) (paths_s0 h_r0) rfl (Nat.le_of_ble_eq_true rfl) (Nat.le_of_ble_eq_true rfl) (Nat.le_of_ble_eq_true rfl) (Nat.le_of_ble_eq_true rfl) (c_Pa_cost hnx r0 h_r0 x2 s) (fun y1 hy1 hs => ?_)
    refine w_istore_n (lv' := [(3, vi y1), (0, .ref r0), (1, vi x1), (2, vi x2)]) dX8_least_20 rfl (Nat.le_of_ble_eq_true rfl) rfl ?_
    refine w_iload_n 0 dX8_least_21 rfl rfl ?_
    refine x_iconst dX8_least_22 ?_
    refine x_icmpeq hs dX8_least_23 rfl (fun hs => ?_) (fun hs => ?_)
    · refine w_lv (lv' := [(0, .ref r0), (1, vi x1), (2, vi x2)]) [1, 2, 3] rfl ?_
      exact q_Pa_least_b38 hnx r0 h_r0 x1 x2 s hs hb he0
    · refine w_iload_n 2 dX8_least_26 rfl rfl ?_
      refine x_iconst dX8_least_27 ?_
      refine x_icmpeq hs dX8_least_28 rfl (fun hs => ?_) (fun hs => ?_)
      · refine w_lv (lv' := [(0, .ref r0), (2, vi x2), (3, vi y1)]) [1, 3, 0] rfl ?_
        exact q_Pa_least_b36 hnx r0 h_r0 x2 y1 s hs hb he0
      · refine w_iload_n 0 dX8_least_31 rfl rfl ?_
        refine w_iload_n 2 dX8_least_32 rfl rfl ?_
        refine x_icmpge hs dX8_least_33 rfl (fun hs => ?_) (fun hs => ?_)
        · refine w_lv (lv' := [(0, .ref r0), (1, vi x1), (2, vi x2)]) [1, 2, 3] rfl ?_
          exact q_Pa_least_b38 hnx r0 h_r0 x1 x2 s hs hb he0
        · refine w_lv (lv' := [(0, .ref r0), (2, vi x2), (3, vi y1)]) [1, 3, 0] rfl ?_
          exact q_Pa_least_b36 hnx r0 h_r0 x2 y1 s hs hb he0
set_option maxRecDepth 100000 in
theorem q_Pa_least_l4 {C : Cx} {nx : Nat} (hnx : 80 ≤ nx) (r0 : Nat) (h_r0 : isPaths r0) (x1 : Int) (x2 : Int) (s : Sg) {o : Int} (hs : Pa_least_l4 r0 x1 x2 s = some o) : ww C M_X8_least 2 0 0 nx (QI nx s o) (XF) nx 0 0 4 [(0, .ref r0), (1, vi x1), (2, vi x2)] [] (hp nx s) := by
  unfold Pa_least_l4 at hs
  refine bnd_e hs (fun x1_2 hw hs => ?_)
  have hE : ww C M_X8_least 2 0 0 nx (QI nx s o) (XF) nx 0 0 44 [(1, vi x1_2)] [] (hp nx s) := by
    refine w_iload_n 0 dX8_least_44 rfl rfl ?_
    cases hs
    exact x_ireturn dX8_least_45 rfl rfl (Nat.le_of_ble_eq_true rfl) (Nat.le_of_ble_eq_true rfl) ⟨rfl, rfl⟩
  refine whl_w (P := fun σ => ww C M_X8_least 2 0 0 nx (QI nx s o) (XF) nx 0 0 4 [(0, .ref r0), (1, vi σ.1), (2, vi σ.2)] [] (hp nx s)) (E := fun ρ => ρ = x1_2) hw rfl ?_
  intro σ o' hs' hb' he'
  exact q_Pa_least_t4 hnx r0 h_r0 σ.1 σ.2 s hs' hb' (fun ρ e => by cases he' _ e; exact hE)
set_option maxRecDepth 100000 in
theorem c_Pa_least {C : Cx} {nx : Nat} (hnx : 80 ≤ nx) (r0 : Nat) (h_r0 : isPaths r0) (s : Sg) : ∀ o, Pa_least r0 s = some o → mm C M_X8_least 2 0 0 nx nx [.ref r0] (hp nx s) (QI nx s o) (XF) := by
  intro o hs
  unfold Pa_least at hs
  refine mm_of rfl rfl (Nat.le_of_ble_eq_true rfl) ?_
  show ww C M_X8_least 2 0 0 nx (QI nx s o) (XF) nx 0 0 0 [(0, .ref r0)] [] (hp nx s)
  refine x_iconst dX8_least_0 ?_
  refine w_istore_n (lv' := [(1, vi (-1)), (0, .ref r0)]) dX8_least_1 rfl (Nat.le_of_ble_eq_true rfl) rfl ?_
  refine x_iconst dX8_least_2 ?_
  refine w_istore_n (lv' := [(2, vi 0), (1, vi (-1)), (0, .ref r0)]) dX8_least_3 rfl (Nat.le_of_ble_eq_true rfl) rfl ?_
  refine w_lv (lv' := [(0, .ref r0), (1, vi (-1)), (2, vi 0)]) [2, 1, 0] rfl ?_
  exact q_Pa_least_l4 hnx r0 h_r0 (-1) 0 s hs
set_option maxRecDepth 100000 in
theorem c_Hx_distance {C : Cx} {nx : Nat} (hnx : 80 ≤ nx) (x1 : Int) (s : Sg) : ∀ o, Hx_distance x1 s = some o → mm C M_X11_distance 10 0 0 nx nx [.ref 0, vi x1] (hp nx s) (QT nx o) (XF) := by
  intro o hs
  unfold Hx_distance at hs
  refine mm_of rfl rfl (Nat.le_of_ble_eq_true rfl) ?_
  show ww C M_X11_distance 10 0 0 nx (QT nx o) (XF) nx 0 0 0 [(0, .ref 0), (1, vi x1)] [] (hp nx s)
  refine w_iload_n 1 dX11_distance_0 rfl rfl ?_
  refine x_S_U M_X11_requireSide [vi x1] [] hs rfl dX11_distance_1 (lkX11_211 _ rfl) (Nat.le_of_ble_eq_true rfl) (Nat.le_of_ble_eq_true rfl) (Nat.le_of_ble_eq_true rfl) (Nat.le_of_ble_eq_true rfl) (c_Hx_requireSide hnx x1 s) (fun y1 s2 hy1 hs => ?_)
  refine w_aload_n 0 dX11_distance_4 rfl rfl ?_
  refine w_iload_n 1 dX11_distance_5 rfl rfl ?_
  refine x_V_A M_X11_pathsOf [vi x1] [] hs rfl dX11_distance_6 (lkX11_265 _ rfl) (lt_of hnx (Nat.le_of_ble_eq_true rfl)) rfl rfl (Nat.le_of_ble_eq_true rfl) (Nat.le_of_ble_eq_true rfl) (Nat.le_of_ble_eq_true rfl) (Nat.le_of_ble_eq_true rfl) (c_Hx_pathsOf hnx x1 s2) (fun y3 s4 hy3 hs => ?_)
  have h_y3 := p_Hx_pathsOf hy3
  refine x_V_I M_X8_least [] [] hs rfl dX11_distance_9 (lkX11_269 _ rfl) (paths_n (j := 0) h_y3 (by decide) hnx) (paths_s0 h_y3) rfl (Nat.le_of_ble_eq_true rfl) (Nat.le_of_ble_eq_true rfl) (Nat.le_of_ble_eq_true rfl) (Nat.le_of_ble_eq_true rfl) (c_Pa_least hnx y3 h_y3 s4) (fun y5 hy5 hs => ?_)
  cases hs
  exact x_ireturn dX11_distance_12 rfl rfl (Nat.le_of_ble_eq_true rfl) (Nat.le_of_ble_eq_true rfl) ⟨_, rfl, rfl, rfl⟩
set_option maxRecDepth 100000 in
theorem c_Hx_through {C : Cx} {nx : Nat} (hnx : 80 ≤ nx) (x1 : Int) (x2 : Int) (s : Sg) : ∀ o, Hx_through x1 x2 s = some o → mm C M_X11_through 10 0 0 nx nx [.ref 0, vi x1, vi x2] (hp nx s) (QT nx o) (XF) := by
  intro o hs
  unfold Hx_through at hs
  refine mm_of rfl rfl (Nat.le_of_ble_eq_true rfl) ?_
  show ww C M_X11_through 10 0 0 nx (QT nx o) (XF) nx 0 0 0 [(0, .ref 0), (1, vi x1), (2, vi x2)] [] (hp nx s)
  refine w_iload_n 1 dX11_through_0 rfl rfl ?_
  refine x_S_U M_X11_requireSide [vi x1] [] hs rfl dX11_through_1 (lkX11_211 _ rfl) (Nat.le_of_ble_eq_true rfl) (Nat.le_of_ble_eq_true rfl) (Nat.le_of_ble_eq_true rfl) (Nat.le_of_ble_eq_true rfl) (c_Hx_requireSide hnx x1 s) (fun y1 s2 hy1 hs => ?_)
  refine w_aload_n 0 dX11_through_4 rfl rfl ?_
  refine w_iload_n 2 dX11_through_5 rfl rfl ?_
  refine x_V_U M_X11_requireCell [vi x2] [] hs rfl dX11_through_6 (lkX11_180 _ rfl) (lt_of hnx (Nat.le_of_ble_eq_true rfl)) rfl rfl (Nat.le_of_ble_eq_true rfl) (Nat.le_of_ble_eq_true rfl) (Nat.le_of_ble_eq_true rfl) (Nat.le_of_ble_eq_true rfl) (c_Hx_requireCell hnx x2 s2) (fun y3 s4 hy3 hs => ?_)
  refine w_aload_n 0 dX11_through_9 rfl rfl ?_
  refine w_iload_n 1 dX11_through_10 rfl rfl ?_
  refine x_V_A M_X11_pathsOf [vi x1] [] hs rfl dX11_through_11 (lkX11_265 _ rfl) (lt_of hnx (Nat.le_of_ble_eq_true rfl)) rfl rfl (Nat.le_of_ble_eq_true rfl) (Nat.le_of_ble_eq_true rfl) (Nat.le_of_ble_eq_true rfl) (Nat.le_of_ble_eq_true rfl) (c_Hx_pathsOf hnx x1 s4) (fun y5 s6 hy5 hs => ?_)
  have h_y5 := p_Hx_pathsOf hy5
  refine w_iload_n 2 dX11_through_14 rfl rfl ?_
  refine x_V_I M_X8_cost [vi x2] [] hs rfl dX11_through_15 (lkX11_272 _ rfl) (paths_n (j := 0) h_y5 (by decide) hnx) (paths_s0 h_y5) rfl (Nat.le_of_ble_eq_true rfl) (Nat.le_of_ble_eq_true rfl) (Nat.le_of_ble_eq_true rfl) (Nat.le_of_ble_eq_true rfl) (c_Pa_cost hnx y5 h_y5 x2 s6) (fun y7 hy7 hs => ?_)
  cases hs
  exact x_ireturn dX11_through_18 rfl rfl (Nat.le_of_ble_eq_true rfl) (Nat.le_of_ble_eq_true rfl) ⟨_, rfl, rfl, rfl⟩
set_option maxRecDepth 100000 in
theorem q_Hx_useful_b64 {C : Cx} {nx : Nat} (hnx : 80 ≤ nx) {Qr : Option Value → Hp → Prop} {Qx : String → Hp → Prop}  (r2 : Nat) (h_r2 : isPaths r2) (x3 : Int) (x4 : Int) (x5 : Int) (s : Sg) {o : ((Int × Int) ⊕ (Int))} (hs : Hx_useful_b64 r2 x3 x4 x5 s = some o) (hb : ∀ σ : Int × Int, o = .inl σ → ww C M_X11_useful 10 0 0 nx (Qr) (Qx) nx 0 0 21 [(0, .ref 0), (2, .ref r2), (3, vi x3), (4, vi σ.1), (5, vi σ.2)] [] (hp nx s)) (he0 : ∀ ρ : Int, o = .inr ρ → ww C M_X11_useful 10 0 0 nx (Qr) (Qx) nx 0 0 70 [(4, vi ρ)] [] (hp nx s)) : ww C M_X11_useful 10 0 0 nx (Qr) (Qx) nx 0 0 64 [(0, .ref 0), (2, .ref r2), (3, vi x3), (4, vi x4), (5, vi x5)] [] (hp nx s) := by
  unfold Hx_useful_b64 at hs
  refine x_iinc (lv' := [(5, vi (x5 + 1)), (0, .ref 0), (2, .ref r2), (3, vi x3), (4, vi x4)]) 4 dX11_useful_64 rfl (Nat.le_of_ble_eq_true rfl) rfl ?_
  refine w_goto dX11_useful_67 rfl ?_
  refine w_lv (lv' := [(0, .ref 0), (2, .ref r2), (3, vi x3), (4, vi x4), (5, vi (x5 + 1))]) [1, 2, 3, 4, 0] rfl ?_
  cases hs
  exact hb _ rfl
set_option maxRecDepth 100000 in
theorem q_Hx_useful_t21 {C : Cx} {nx : Nat} (hnx : 80 ≤ nx) {Qr : Option Value → Hp → Prop} {Qx : String → Hp → Prop}  (r2 : Nat) (h_r2 : isPaths r2) (x3 : Int) (x4 : Int) (x5 : Int) (s : Sg) {o : ((Int × Int) ⊕ (Int))} (hs : Hx_useful_t21 r2 x3 x4 x5 s = some o) (hb : ∀ σ : Int × Int, o = .inl σ → ww C M_X11_useful 10 0 0 nx (Qr) (Qx) nx 0 0 21 [(0, .ref 0), (2, .ref r2), (3, vi x3), (4, vi σ.1), (5, vi σ.2)] [] (hp nx s)) (he0 : ∀ ρ : Int, o = .inr ρ → ww C M_X11_useful 10 0 0 nx (Qr) (Qx) nx 0 0 70 [(4, vi ρ)] [] (hp nx s)) : ww C M_X11_useful 10 0 0 nx (Qr) (Qx) nx 0 0 21 [(0, .ref 0), (2, .ref r2), (3, vi x3), (4, vi x4), (5, vi x5)] [] (hp nx s) := by
  unfold Hx_useful_t21 at hs
  refine w_iload 4 dX11_useful_21 rfl ?_
  refine w_aload_n 0 dX11_useful_23 rfl rfl ?_
  refine x_getR 11 0 (b := 1) dX11_useful_24 (fxX11_10 rfl) rfl rfl (lt_of hnx (Nat.le_of_ble_eq_true rfl)) rfl ?_
  refine x_getI 5 4 dX11_useful_27 (fxX11_275 rfl) rfl rfl (lt_of hnx (Nat.le_of_ble_eq_true rfl)) ?_
  refine x_icmpge hs dX11_useful_30 rfl (fun hs => ?_) (fun hs => ?_)
  · refine w_lv (lv' := [(4, vi x4)]) [3] rfl ?_
    cases hs
    exact he0 _ rfl
  · refine w_iload_n 2 dX11_useful_33 rfl rfl ?_
    refine x_iconst dX11_useful_34 ?_
    refine x_icmpeq hs dX11_useful_35 rfl (fun hs => ?_) (fun hs => ?_)
    · exact q_Hx_useful_b64 hnx r2 h_r2 x3 x4 x5 s hs hb he0
    · refine w_aload_n 0 dX11_useful_38 rfl rfl ?_
      refine x_getR 11 2 (b := 10) dX11_useful_39 (fxX11_28 rfl) rfl rfl (lt_of hnx (Nat.le_of_ble_eq_true rfl)) rfl ?_
      refine w_iload 4 dX11_useful_42 rfl ?_
      refine x_V_I M_X9_stone [vi x5] [] hs rfl dX11_useful_44 (lkX11_183 _ rfl) (lt_of hnx (Nat.le_of_ble_eq_true rfl)) rfl rfl (Nat.le_of_ble_eq_true rfl) (Nat.le_of_ble_eq_true rfl) (Nat.le_of_ble_eq_true rfl) (Nat.le_of_ble_eq_true rfl) (c_Po_stone hnx 10 (show 10 ∈ posL by decide) x5 s) (fun y6 hy6 hs => ?_)
      refine x_iconst dX11_useful_47 ?_
      refine x_icmpne hs dX11_useful_48 rfl (fun hs => ?_) (fun hs => ?_)
      · exact q_Hx_useful_b64 hnx r2 h_r2 x3 x4 x5 s hs hb he0
      · refine w_aload_n 1 dX11_useful_51 rfl rfl ?_
        refine w_iload 4 dX11_useful_52 rfl ?_
        refine x_V_I M_X8_cost [vi x5] [] hs rfl dX11_useful_54 (lkX11_272 _ rfl) (paths_n (j := 0) h_r2 (by decide) hnx) (paths_s0 h_r2) rfl (Nat.le_of_ble_eq_true rfl) (Nat.le_of_ble_eq_true rfl) (Nat.le_of_ble_eq_true rfl) (Nat.le_of_ble_eq_true rfl) (c_Pa_cost hnx r2 h_r2 x5 s) (fun y7 hy7 hs => ?_)
        refine w_iload_n 2 dX11_useful_57 rfl rfl ?_
        refine x_icmpne hs dX11_useful_58 rfl (fun hs => ?_) (fun hs => ?_)
        · exact q_Hx_useful_b64 hnx r2 h_r2 x3 x4 x5 s hs hb he0
        · refine x_iinc (lv' := [(4, vi (x4 + 1)), (0, .ref 0), (2, .ref r2), (3, vi x3), (5, vi x5)]) 3 dX11_useful_61 rfl (Nat.le_of_ble_eq_true rfl) rfl ?_
          refine w_lv (lv' := [(0, .ref 0), (2, .ref r2), (3, vi x3), (4, vi (x4 + 1)), (5, vi x5)]) [1, 2, 3, 0, 4] rfl ?_
          exact q_Hx_useful_b64 hnx r2 h_r2 x3 (x4 + 1) x5 s hs hb he0
set_option maxRecDepth 100000 in
theorem q_Hx_useful_l21 {C : Cx} {nx : Nat} (hnx : 80 ≤ nx) (r2 : Nat) (h_r2 : isPaths r2) (x3 : Int) (x4 : Int) (x5 : Int) (s : Sg) {o : (Nat ⊕ Int) × Sg} (hs : Hx_useful_l21 r2 x3 x4 x5 s = some o) : ww C M_X11_useful 10 0 0 nx (QT nx o) (XF) nx 0 0 21 [(0, .ref 0), (2, .ref r2), (3, vi x3), (4, vi x4), (5, vi x5)] [] (hp nx s) := by
  unfold Hx_useful_l21 at hs
  refine bnd_e hs (fun x4_8 hw hs => ?_)
  have hE : ww C M_X11_useful 10 0 0 nx (QT nx o) (XF) nx 0 0 70 [(4, vi x4_8)] [] (hp nx s) := by
    refine w_iload 0 dX11_useful_70 rfl ?_
    cases hs
    exact x_ireturn dX11_useful_72 rfl rfl (Nat.le_of_ble_eq_true rfl) (Nat.le_of_ble_eq_true rfl) ⟨_, rfl, rfl, rfl⟩
  refine whl_w (P := fun σ => ww C M_X11_useful 10 0 0 nx (QT nx o) (XF) nx 0 0 21 [(0, .ref 0), (2, .ref r2), (3, vi x3), (4, vi σ.1), (5, vi σ.2)] [] (hp nx s)) (E := fun ρ => ρ = x4_8) hw rfl ?_
  intro σ o' hs' hb' he'
  exact q_Hx_useful_t21 hnx r2 h_r2 x3 σ.1 σ.2 s hs' hb' (fun ρ e => by cases he' _ e; exact hE)
set_option maxRecDepth 100000 in
theorem c_Hx_useful {C : Cx} {nx : Nat} (hnx : 80 ≤ nx) (x1 : Int) (s : Sg) : ∀ o, Hx_useful x1 s = some o → mm C M_X11_useful 10 0 0 nx nx [.ref 0, vi x1] (hp nx s) (QT nx o) (XF) := by
  intro o hs
  unfold Hx_useful at hs
  refine mm_of rfl rfl (Nat.le_of_ble_eq_true rfl) ?_
  show ww C M_X11_useful 10 0 0 nx (QT nx o) (XF) nx 0 0 0 [(0, .ref 0), (1, vi x1)] [] (hp nx s)
  refine w_iload_n 1 dX11_useful_0 rfl rfl ?_
  refine x_S_U M_X11_requireSide [vi x1] [] hs rfl dX11_useful_1 (lkX11_211 _ rfl) (Nat.le_of_ble_eq_true rfl) (Nat.le_of_ble_eq_true rfl) (Nat.le_of_ble_eq_true rfl) (Nat.le_of_ble_eq_true rfl) (c_Hx_requireSide hnx x1 s) (fun y1 s2 hy1 hs => ?_)
  refine w_aload_n 0 dX11_useful_4 rfl rfl ?_
  refine w_iload_n 1 dX11_useful_5 rfl rfl ?_
  refine x_V_A M_X11_pathsOf [vi x1] [] hs rfl dX11_useful_6 (lkX11_265 _ rfl) (lt_of hnx (Nat.le_of_ble_eq_true rfl)) rfl rfl (Nat.le_of_ble_eq_true rfl) (Nat.le_of_ble_eq_true rfl) (Nat.le_of_ble_eq_true rfl) (Nat.le_of_ble_eq_true rfl) (c_Hx_pathsOf hnx x1 s2) (fun y3 s4 hy3 hs => ?_)
  have h_y3 := p_Hx_pathsOf hy3
  refine w_astore_n (lv' := [(2, .ref y3), (0, .ref 0), (1, vi x1)]) dX11_useful_9 rfl (Nat.le_of_ble_eq_true rfl) rfl ?_
  refine w_aload_n 0 dX11_useful_10 rfl rfl ?_
  refine x_V_I M_X8_least [] [] hs rfl dX11_useful_11 (lkX11_269 _ rfl) (paths_n (j := 0) h_y3 (by decide) hnx) (paths_s0 h_y3) rfl (Nat.le_of_ble_eq_true rfl) (Nat.le_of_ble_eq_true rfl) (Nat.le_of_ble_eq_true rfl) (Nat.le_of_ble_eq_true rfl) (c_Pa_least hnx y3 h_y3 s4) (fun y5 hy5 hs => ?_)
  refine w_istore_n (lv' := [(3, vi y5), (2, .ref y3), (0, .ref 0), (1, vi x1)]) dX11_useful_14 rfl (Nat.le_of_ble_eq_true rfl) rfl ?_
  refine x_iconst dX11_useful_15 ?_
  refine w_istore (lv' := [(4, vi 0), (3, vi y5), (2, .ref y3), (0, .ref 0), (1, vi x1)]) dX11_useful_16 (Nat.le_of_ble_eq_true rfl) rfl ?_
  refine x_iconst dX11_useful_18 ?_
  refine w_istore (lv' := [(5, vi 0), (4, vi 0), (3, vi y5), (2, .ref y3), (0, .ref 0), (1, vi x1)]) dX11_useful_19 (Nat.le_of_ble_eq_true rfl) rfl ?_
  refine w_lv (lv' := [(0, .ref 0), (2, .ref y3), (3, vi y5), (4, vi 0), (5, vi 0)]) [4, 3, 2, 1, 0] rfl ?_
  exact q_Hx_useful_l21 hnx y3 h_y3 y5 0 0 s4 hs
set_option maxRecDepth 100000 in
theorem q_Fl_nextLevel_b112 {C : Cx} {nx : Nat} (hnx : 80 ≤ nx) {Qr : Option Value → Hp → Prop} {Qx : String → Hp → Prop}  (x1 : Int) (x3 : Int) (x4 : Int) (x5 : Int) (s : Sg) {o : ((Int × Int × Int) ⊕ (Int × Int))} (hs : Fl_nextLevel_b112 x1 x3 x4 x5 s = some o) (hb : ∀ σ : Int × Int × Int, o = .inl σ → ww C M_X4_nextLevel 1 0 0 nx (Qr) (Qx) nx 0 0 39 [(0, .ref 71), (1, vi x1), (3, vi σ.1), (4, vi σ.2.1), (5, vi σ.2.2)] [] (hp nx s)) (he0 : ∀ ρ : Int × Int, o = .inr ρ → ww C M_X4_nextLevel 1 0 0 nx (Qr) (Qx) nx 0 0 118 [(0, .ref 71), (1, vi x1), (3, vi ρ.1), (4, vi ρ.2)] [] (hp nx s)) : ww C M_X4_nextLevel 1 0 0 nx (Qr) (Qx) nx 0 0 112 [(0, .ref 71), (1, vi x1), (3, vi x3), (4, vi x4), (5, vi x5)] [] (hp nx s) := by
  unfold Fl_nextLevel_b112 at hs
  refine x_iinc (lv' := [(5, vi (x5 + 1)), (0, .ref 71), (1, vi x1), (3, vi x3), (4, vi x4)]) 4 dX4_nextLevel_112 rfl (Nat.le_of_ble_eq_true rfl) rfl ?_
  refine w_goto dX4_nextLevel_115 rfl ?_
  refine w_lv (lv' := [(0, .ref 71), (1, vi x1), (3, vi x3), (4, vi x4), (5, vi (x5 + 1))]) [1, 2, 3, 4, 0] rfl ?_
  cases hs
  exact hb _ rfl
set_option maxRecDepth 100000 in
theorem q_Fl_nextLevel_t39 {C : Cx} {nx : Nat} (hnx : 80 ≤ nx) {Qr : Option Value → Hp → Prop} {Qx : String → Hp → Prop}  (x1 : Int) (x3 : Int) (x4 : Int) (x5 : Int) (s : Sg) {o : ((Int × Int × Int) ⊕ (Int × Int))} (hs : Fl_nextLevel_t39 x1 x3 x4 x5 s = some o) (hb : ∀ σ : Int × Int × Int, o = .inl σ → ww C M_X4_nextLevel 1 0 0 nx (Qr) (Qx) nx 0 0 39 [(0, .ref 71), (1, vi x1), (3, vi σ.1), (4, vi σ.2.1), (5, vi σ.2.2)] [] (hp nx s)) (he0 : ∀ ρ : Int × Int, o = .inr ρ → ww C M_X4_nextLevel 1 0 0 nx (Qr) (Qx) nx 0 0 118 [(0, .ref 71), (1, vi x1), (3, vi ρ.1), (4, vi ρ.2)] [] (hp nx s)) : ww C M_X4_nextLevel 1 0 0 nx (Qr) (Qx) nx 0 0 39 [(0, .ref 71), (1, vi x1), (3, vi x3), (4, vi x4), (5, vi x5)] [] (hp nx s) := by
  unfold Fl_nextLevel_t39 at hs
  refine w_iload 4 dX4_nextLevel_39 rfl ?_
  refine x_bipush dX4_nextLevel_41 (by decide) ?_
  refine x_icmpge hs dX4_nextLevel_43 rfl (fun hs => ?_) (fun hs => ?_)
  · refine w_lv (lv' := [(0, .ref 71), (1, vi x1), (3, vi x3), (4, vi x4)]) [0, 1, 2, 3] rfl ?_
    cases hs
    exact he0 _ rfl
  · refine w_aload_n 0 dX4_nextLevel_46 rfl rfl ?_
    refine x_getR 4 0 (b := 1) dX4_nextLevel_47 (fxX4_9 rfl) rfl rfl (lt_of hnx (Nat.le_of_ble_eq_true rfl)) rfl ?_
    refine w_iload_n 1 dX4_nextLevel_50 rfl rfl ?_
    refine w_iload 4 dX4_nextLevel_51 rfl ?_
    refine x_V_I M_X5_near [vi x1, vi x5] [] hs rfl dX4_nextLevel_53 (lkX4_57 _ rfl) (lt_of hnx (Nat.le_of_ble_eq_true rfl)) rfl rfl (Nat.le_of_ble_eq_true rfl) (Nat.le_of_ble_eq_true rfl) (Nat.le_of_ble_eq_true rfl) (Nat.le_of_ble_eq_true rfl) (c_Gr_near hnx x1 x5 s) (fun y2 hy2 hs => ?_)
    refine w_istore (lv' := [(6, vi y2), (0, .ref 71), (1, vi x1), (3, vi x3), (4, vi x4), (5, vi x5)]) dX4_nextLevel_56 (Nat.le_of_ble_eq_true rfl) rfl ?_
    refine w_iload 0 dX4_nextLevel_58 rfl ?_
    refine x_iconst dX4_nextLevel_60 ?_
    refine x_icmpeq hs dX4_nextLevel_61 rfl (fun hs => ?_) (fun hs => ?_)
    · refine w_lv (lv' := [(0, .ref 71), (1, vi x1), (3, vi x3), (4, vi x4), (5, vi x5)]) [1, 2, 3, 4, 5] rfl ?_
      exact q_Fl_nextLevel_b112 hnx x1 x3 x4 x5 s hs hb he0
    · refine w_aload_n 1 dX4_nextLevel_64 rfl rfl ?_
      refine x_getR 4 1 (b := 72) dX4_nextLevel_65 (fxX4_15 rfl) rfl rfl (lt_of hnx (Nat.le_of_ble_eq_true rfl)) rfl ?_
      refine w_iload 0 dX4_nextLevel_68 rfl ?_
      refine x_N_I M_X11_at [.ref 72, vi y2] [] hs rfl dX4_nextLevel_70 (lkX4_31 _ rfl) (Nat.le_of_ble_eq_true rfl) (Nat.le_of_ble_eq_true rfl) (Nat.le_of_ble_eq_true rfl) (Nat.le_of_ble_eq_true rfl) (c_Hx_at hnx 72 (Or.inl (rowW_of rfl (lt_of hnx (Nat.le_of_ble_eq_true rfl)))) y2 s) (fun y3 hy3 hs => ?_)
      refine x_ifle hs dX4_nextLevel_73 rfl (fun hs => ?_) (fun hs => ?_)
      · refine w_lv (lv' := [(0, .ref 71), (1, vi x1), (3, vi x3), (4, vi x4), (5, vi x5)]) [1, 2, 3, 4, 5] rfl ?_
        exact q_Fl_nextLevel_b112 hnx x1 x3 x4 x5 s hs hb he0
      · refine w_iload_n 3 dX4_nextLevel_76 rfl rfl ?_
        refine w_aload_n 1 dX4_nextLevel_77 rfl rfl ?_
        refine x_getR 4 1 (b := 72) dX4_nextLevel_78 (fxX4_15 rfl) rfl rfl (lt_of hnx (Nat.le_of_ble_eq_true rfl)) rfl ?_
        refine w_iload 0 dX4_nextLevel_81 rfl ?_
        refine x_N_I M_X11_at [.ref 72, vi y2] [vi x3] hs rfl dX4_nextLevel_83 (lkX4_31 _ rfl) (Nat.le_of_ble_eq_true rfl) (Nat.le_of_ble_eq_true rfl) (Nat.le_of_ble_eq_true rfl) (Nat.le_of_ble_eq_true rfl) (c_Hx_at hnx 72 (Or.inl (rowW_of rfl (lt_of hnx (Nat.le_of_ble_eq_true rfl)))) y2 s) (fun y4 hy4 hs => ?_)
        refine x_iadd dX4_nextLevel_86 ?_
        refine x_istore_n (fun x3_5 => [(3, vi x3_5), (6, vi y2), (0, .ref 71), (1, vi x1), (4, vi x4), (5, vi x5)]) hs dX4_nextLevel_87 rfl (Nat.le_of_ble_eq_true rfl) (fun _ => rfl) (fun x3_5 hs => ?_)
        refine w_iload 4 dX4_nextLevel_88 rfl ?_
        refine w_aload_n 2 dX4_nextLevel_90 rfl rfl ?_
        refine x_getR 4 1 (b := 72) dX4_nextLevel_91 (fxX4_15 rfl) rfl rfl (lt_of hnx (Nat.le_of_ble_eq_true rfl)) rfl ?_
        refine w_iload 1 dX4_nextLevel_94 rfl ?_
        refine x_N_I M_X11_at [.ref 72, vi y2] [vi x4] hs rfl dX4_nextLevel_96 (lkX4_31 _ rfl) (Nat.le_of_ble_eq_true rfl) (Nat.le_of_ble_eq_true rfl) (Nat.le_of_ble_eq_true rfl) (Nat.le_of_ble_eq_true rfl) (c_Hx_at hnx 72 (Or.inl (rowW_of rfl (lt_of hnx (Nat.le_of_ble_eq_true rfl)))) y2 s) (fun y6 hy6 hs => ?_)
        refine w_aload_n 2 dX4_nextLevel_99 rfl rfl ?_
        refine x_getR 4 2 (b := 73) dX4_nextLevel_100 (fxX4_19 rfl) rfl rfl (lt_of hnx (Nat.le_of_ble_eq_true rfl)) rfl ?_
        refine w_iload 1 dX4_nextLevel_103 rfl ?_
        refine x_N_I M_X11_at [.ref 73, vi y2] [vi y6, vi x4] hs rfl dX4_nextLevel_105 (lkX4_31 _ rfl) (Nat.le_of_ble_eq_true rfl) (Nat.le_of_ble_eq_true rfl) (Nat.le_of_ble_eq_true rfl) (Nat.le_of_ble_eq_true rfl) (c_Hx_at hnx 73 (Or.inl (rowW_of rfl (lt_of hnx (Nat.le_of_ble_eq_true rfl)))) y2 s) (fun y7 hy7 hs => ?_)
        refine x_imul dX4_nextLevel_108 ?_
        refine x_iadd dX4_nextLevel_109 ?_
        refine x_istore (fun x4_8 => [(4, vi x4_8), (3, vi x3_5), (6, vi y2), (0, .ref 71), (1, vi x1), (5, vi x5)]) hs dX4_nextLevel_110 (Nat.le_of_ble_eq_true rfl) (fun _ => rfl) (fun x4_8 hs => ?_)
        refine w_lv (lv' := [(0, .ref 71), (1, vi x1), (3, vi x3_5), (4, vi x4_8), (5, vi x5)]) [3, 4, 1, 0, 5] rfl ?_
        exact q_Fl_nextLevel_b112 hnx x1 x3_5 x4_8 x5 s hs hb he0
set_option maxRecDepth 100000 in
theorem q_Fl_nextLevel_l39 {C : Cx} {nx : Nat} (hnx : 80 ≤ nx) (x1 : Int) (x3 : Int) (x4 : Int) (x5 : Int) (s : Sg) {o : Int} (hs : Fl_nextLevel_l39 x1 x3 x4 x5 s = some o) : ww C M_X4_nextLevel 1 0 0 nx (QI nx s o) (XF) nx 0 0 39 [(0, .ref 71), (1, vi x1), (3, vi x3), (4, vi x4), (5, vi x5)] [] (hp nx s) := by
  unfold Fl_nextLevel_l39 at hs
  refine bnd_e hs (fun ρ hw hs => ?_)
  obtain ⟨x3_9, x4_10⟩ := ρ
  have hE : ww C M_X4_nextLevel 1 0 0 nx (QI nx s o) (XF) nx 0 0 118 [(0, .ref 71), (1, vi x1), (3, vi x3_9), (4, vi x4_10)] [] (hp nx s) := by
    refine w_iload_n 2 dX4_nextLevel_118 rfl rfl ?_
    refine x_ifne hs dX4_nextLevel_119 rfl (fun hs => ?_) (fun hs => ?_)
    · refine w_iload 3 dX4_nextLevel_133 rfl ?_
      refine w_iload_n 2 dX4_nextLevel_135 rfl rfl ?_
      refine grd_e hs (fun hg11 hs => ?_)
      refine x_idiv dX4_nextLevel_136 hg11 ?_
      cases hs
      exact x_ireturn dX4_nextLevel_137 rfl rfl (Nat.le_of_ble_eq_true rfl) (Nat.le_of_ble_eq_true rfl) ⟨rfl, rfl⟩
    · refine w_aload_n 0 dX4_nextLevel_122 rfl rfl ?_
      refine x_getR 4 2 (b := 73) dX4_nextLevel_123 (fxX4_19 rfl) rfl rfl (lt_of hnx (Nat.le_of_ble_eq_true rfl)) rfl ?_
      refine w_iload_n 1 dX4_nextLevel_126 rfl rfl ?_
      refine x_N_I M_X11_at [.ref 73, vi x1] [] hs rfl dX4_nextLevel_127 (lkX4_31 _ rfl) (Nat.le_of_ble_eq_true rfl) (Nat.le_of_ble_eq_true rfl) (Nat.le_of_ble_eq_true rfl) (Nat.le_of_ble_eq_true rfl) (c_Hx_at hnx 73 (Or.inl (rowW_of rfl (lt_of hnx (Nat.le_of_ble_eq_true rfl)))) x1 s) (fun y12 hy12 hs => ?_)
      refine w_goto dX4_nextLevel_130 rfl ?_
      cases hs
      exact x_ireturn dX4_nextLevel_137 rfl rfl (Nat.le_of_ble_eq_true rfl) (Nat.le_of_ble_eq_true rfl) ⟨rfl, rfl⟩
  refine whl_w (P := fun σ => ww C M_X4_nextLevel 1 0 0 nx (QI nx s o) (XF) nx 0 0 39 [(0, .ref 71), (1, vi x1), (3, vi σ.1), (4, vi σ.2.1), (5, vi σ.2.2)] [] (hp nx s)) (E := fun ρ => ρ = (x3_9, x4_10)) hw rfl ?_
  intro σ o' hs' hb' he'
  exact q_Fl_nextLevel_t39 hnx x1 σ.1 σ.2.1 σ.2.2 s hs' hb' (fun ρ e => by cases he' _ e; exact hE)
set_option maxRecDepth 100000 in
theorem q_Fl_nextLevel_b34 {C : Cx} {nx : Nat} (hnx : 80 ≤ nx) (x1 : Int) (x3 : Int) (t0 : Int) (s : Sg) {o : Int} (hs : Fl_nextLevel_b34 x1 x3 t0 s = some o) : ww C M_X4_nextLevel 1 0 0 nx (QI nx s o) (XF) nx 0 0 34 [(0, .ref 71), (1, vi x1), (3, vi x3)] [vi t0] (hp nx s) := by
  unfold Fl_nextLevel_b34 at hs
  refine w_istore (lv' := [(4, vi t0), (0, .ref 71), (1, vi x1), (3, vi x3)]) dX4_nextLevel_34 (Nat.le_of_ble_eq_true rfl) rfl ?_
  refine x_iconst dX4_nextLevel_36 ?_
  refine w_istore (lv' := [(5, vi 0), (4, vi t0), (0, .ref 71), (1, vi x1), (3, vi x3)]) dX4_nextLevel_37 (Nat.le_of_ble_eq_true rfl) rfl ?_
  refine w_lv (lv' := [(0, .ref 71), (1, vi x1), (3, vi x3), (4, vi t0), (5, vi 0)]) [2, 3, 4, 1, 0] rfl ?_
  exact q_Fl_nextLevel_l39 hnx x1 x3 t0 0 s hs
set_option maxRecDepth 100000 in
theorem q_Fl_nextLevel_b22 {C : Cx} {nx : Nat} (hnx : 80 ≤ nx) (x1 : Int) (x2 : Int) (t0 : Int) (s : Sg) {o : Int} (hs : Fl_nextLevel_b22 x1 x2 t0 s = some o) : ww C M_X4_nextLevel 1 0 0 nx (QI nx s o) (XF) nx 0 0 22 [(0, .ref 71), (1, vi x1), (2, vi x2)] [vi t0] (hp nx s) := by
  unfold Fl_nextLevel_b22 at hs
  refine w_istore_n (lv' := [(3, vi t0), (0, .ref 71), (1, vi x1), (2, vi x2)]) dX4_nextLevel_22 rfl (Nat.le_of_ble_eq_true rfl) rfl ?_
  refine w_iload_n 3 dX4_nextLevel_23 rfl rfl ?_
  refine x_iconst dX4_nextLevel_24 ?_
  refine x_icmpne hs dX4_nextLevel_25 rfl (fun hs => ?_) (fun hs => ?_)
  · refine x_iconst dX4_nextLevel_33 ?_
    refine w_lv (lv' := [(0, .ref 71), (1, vi x1), (3, vi t0)]) [1, 2, 0] rfl ?_
    exact q_Fl_nextLevel_b34 hnx x1 t0 0 s hs
  · refine x_ldc 1000000 dX4_nextLevel_28 (csX4_56 rfl) ?_
    refine w_goto dX4_nextLevel_30 rfl ?_
    refine w_lv (lv' := [(0, .ref 71), (1, vi x1), (3, vi t0)]) [1, 2, 0] rfl ?_
    exact q_Fl_nextLevel_b34 hnx x1 t0 1000000 s hs
set_option maxRecDepth 100000 in
theorem c_Fl_nextLevel {C : Cx} {nx : Nat} (hnx : 80 ≤ nx) (x1 : Int) (s : Sg) : ∀ o, Fl_nextLevel x1 s = some o → mm C M_X4_nextLevel 1 0 0 nx nx [.ref 71, vi x1] (hp nx s) (QI nx s o) (XF) := by
  intro o hs
  unfold Fl_nextLevel at hs
  refine mm_of rfl rfl (Nat.le_of_ble_eq_true rfl) ?_
  show ww C M_X4_nextLevel 1 0 0 nx (QI nx s o) (XF) nx 0 0 0 [(0, .ref 71), (1, vi x1)] [] (hp nx s)
  refine w_aload_n 0 dX4_nextLevel_0 rfl rfl ?_
  refine x_getR 4 0 (b := 1) dX4_nextLevel_1 (fxX4_9 rfl) rfl rfl (lt_of hnx (Nat.le_of_ble_eq_true rfl)) rfl ?_
  refine w_iload_n 1 dX4_nextLevel_4 rfl rfl ?_
  refine w_aload_n 0 dX4_nextLevel_5 rfl rfl ?_
  refine x_getI 4 3 dX4_nextLevel_6 (fxX4_22 rfl) rfl rfl (lt_of hnx (Nat.le_of_ble_eq_true rfl)) ?_
  refine x_V_I M_X5_edges [vi x1, vi (gi s 71 3)] [] hs rfl dX4_nextLevel_9 (lkX4_52 _ rfl) (lt_of hnx (Nat.le_of_ble_eq_true rfl)) rfl rfl (Nat.le_of_ble_eq_true rfl) (Nat.le_of_ble_eq_true rfl) (Nat.le_of_ble_eq_true rfl) (Nat.le_of_ble_eq_true rfl) (c_Gr_edges hnx x1 (gi s 71 3) s) (fun y1 hy1 hs => ?_)
  refine w_istore_n (lv' := [(2, vi y1), (0, .ref 71), (1, vi x1)]) dX4_nextLevel_12 rfl (Nat.le_of_ble_eq_true rfl) rfl ?_
  refine w_iload_n 0 dX4_nextLevel_13 rfl rfl ?_
  refine x_ifne hs dX4_nextLevel_14 rfl (fun hs => ?_) (fun hs => ?_)
  · refine x_iconst dX4_nextLevel_21 ?_
    refine w_lv (lv' := [(0, .ref 71), (1, vi x1), (2, vi y1)]) [1, 2, 0] rfl ?_
    exact q_Fl_nextLevel_b22 hnx x1 y1 1 s hs
  · refine x_iconst dX4_nextLevel_17 ?_
    refine w_goto dX4_nextLevel_18 rfl ?_
    refine w_lv (lv' := [(0, .ref 71), (1, vi x1), (2, vi y1)]) [1, 2, 0] rfl ?_
    exact q_Fl_nextLevel_b22 hnx x1 y1 0 s hs
set_option maxRecDepth 100000 in
theorem q_Fl_sweep_b61 {C : Cx} {nx : Nat} (hnx : 80 ≤ nx) {Qr : Option Value → Hp → Prop} {Qx : String → Hp → Prop}  (x1 : Int) (x2 : Int) (s : Sg) {o : ((Int × Int × Sg) ⊕ (Int × Sg))} (hs : Fl_sweep_b61 x1 x2 s = some o) (hb : ∀ σ : Int × Int × Sg, o = .inl σ → ww C M_X4_sweep 2 0 0 nx (Qr) (Qx) nx 0 0 4 [(0, .ref 71), (1, vi σ.1), (2, vi σ.2.1)] [] (hp nx σ.2.2)) (he0 : ∀ ρ : Int × Sg, o = .inr ρ → ww C M_X4_sweep 2 0 0 nx (Qr) (Qx) nx 0 0 67 [(1, vi ρ.1)] [] (hp nx ρ.2)) : ww C M_X4_sweep 2 0 0 nx (Qr) (Qx) nx 0 0 61 [(0, .ref 71), (1, vi x1), (2, vi x2)] [] (hp nx s) := by
  unfold Fl_sweep_b61 at hs
  refine x_iinc (lv' := [(2, vi (x2 + 1)), (0, .ref 71), (1, vi x1)]) 2 dX4_sweep_61 rfl (Nat.le_of_ble_eq_true rfl) rfl ?_
  refine w_goto dX4_sweep_64 rfl ?_
  refine w_lv (lv' := [(0, .ref 71), (1, vi x1), (2, vi (x2 + 1))]) [1, 2, 0] rfl ?_
  cases hs
  exact hb _ rfl
set_option maxRecDepth 100000 in
theorem q_Fl_sweep_b50 {C : Cx} {nx : Nat} (hnx : 80 ≤ nx) {Qr : Option Value → Hp → Prop} {Qx : String → Hp → Prop}  (x2 : Int) (x3 : Int) (t0 : Int) (t1 : Int) (s : Sg) {o : ((Int × Int × Sg) ⊕ (Int × Sg))} (hs : Fl_sweep_b50 x2 x3 t0 t1 s = some o) (hb : ∀ σ : Int × Int × Sg, o = .inl σ → ww C M_X4_sweep 2 0 0 nx (Qr) (Qx) nx 0 0 4 [(0, .ref 71), (1, vi σ.1), (2, vi σ.2.1)] [] (hp nx σ.2.2)) (he0 : ∀ ρ : Int × Sg, o = .inr ρ → ww C M_X4_sweep 2 0 0 nx (Qr) (Qx) nx 0 0 67 [(1, vi ρ.1)] [] (hp nx ρ.2)) : ww C M_X4_sweep 2 0 0 nx (Qr) (Qx) nx 0 0 50 [(0, .ref 71), (2, vi x2), (3, vi x3)] [vi t1, vi t0] (hp nx s) := by
  unfold Fl_sweep_b50 at hs
  refine x_ior dX4_sweep_50 ?_
  refine x_istore_n (fun x1_4 => [(1, vi x1_4), (0, .ref 71), (2, vi x2), (3, vi x3)]) hs dX4_sweep_51 rfl (Nat.le_of_ble_eq_true rfl) (fun _ => rfl) (fun x1_4 hs => ?_)
  refine w_aload_n 1 dX4_sweep_52 rfl rfl ?_
  refine x_getR 4 2 (b := 73) dX4_sweep_53 (fxX4_19 rfl) rfl rfl (lt_of hnx (Nat.le_of_ble_eq_true rfl)) rfl ?_
  refine w_iload_n 2 dX4_sweep_56 rfl rfl ?_
  refine w_iload_n 3 dX4_sweep_57 rfl rfl ?_
  refine x_N_V M_X11_set [.ref 73, vi x2, vi x3] [] hs rfl dX4_sweep_58 (lkX4_35 _ rfl) (Nat.le_of_ble_eq_true rfl) (Nat.le_of_ble_eq_true rfl) (Nat.le_of_ble_eq_true rfl) (Nat.le_of_ble_eq_true rfl) (c_Hx_set hnx 73 (rowW_of rfl (lt_of hnx (Nat.le_of_ble_eq_true rfl))) x2 x3 s) (fun s6 hs6 hs => ?_)
  refine w_lv (lv' := [(0, .ref 71), (1, vi x1_4), (2, vi x2)]) [1, 0, 2] rfl ?_
  exact q_Fl_sweep_b61 hnx x1_4 x2 s6 hs hb he0
set_option maxRecDepth 100000 in
theorem q_Fl_sweep_t4 {C : Cx} {nx : Nat} (hnx : 80 ≤ nx) {Qr : Option Value → Hp → Prop} {Qx : String → Hp → Prop}  (x1 : Int) (x2 : Int) (s : Sg) {o : ((Int × Int × Sg) ⊕ (Int × Sg))} (hs : Fl_sweep_t4 x1 x2 s = some o) (hb : ∀ σ : Int × Int × Sg, o = .inl σ → ww C M_X4_sweep 2 0 0 nx (Qr) (Qx) nx 0 0 4 [(0, .ref 71), (1, vi σ.1), (2, vi σ.2.1)] [] (hp nx σ.2.2)) (he0 : ∀ ρ : Int × Sg, o = .inr ρ → ww C M_X4_sweep 2 0 0 nx (Qr) (Qx) nx 0 0 67 [(1, vi ρ.1)] [] (hp nx ρ.2)) : ww C M_X4_sweep 2 0 0 nx (Qr) (Qx) nx 0 0 4 [(0, .ref 71), (1, vi x1), (2, vi x2)] [] (hp nx s) := by
  unfold Fl_sweep_t4 at hs
  refine w_iload_n 2 dX4_sweep_4 rfl rfl ?_
  refine w_aload_n 0 dX4_sweep_5 rfl rfl ?_
  refine x_getR 4 0 (b := 1) dX4_sweep_6 (fxX4_9 rfl) rfl rfl (lt_of hnx (Nat.le_of_ble_eq_true rfl)) rfl ?_
  refine x_getI 5 4 dX4_sweep_9 (fxX4_26 rfl) rfl rfl (lt_of hnx (Nat.le_of_ble_eq_true rfl)) ?_
  refine x_icmpge hs dX4_sweep_12 rfl (fun hs => ?_) (fun hs => ?_)
  · refine w_lv (lv' := [(1, vi x1)]) [1] rfl ?_
    cases hs
    exact he0 _ rfl
  · refine w_aload_n 0 dX4_sweep_15 rfl rfl ?_
    refine x_getR 4 1 (b := 72) dX4_sweep_16 (fxX4_15 rfl) rfl rfl (lt_of hnx (Nat.le_of_ble_eq_true rfl)) rfl ?_
    refine w_iload_n 2 dX4_sweep_19 rfl rfl ?_
    refine x_N_I M_X11_at [.ref 72, vi x2] [] hs rfl dX4_sweep_20 (lkX4_31 _ rfl) (Nat.le_of_ble_eq_true rfl) (Nat.le_of_ble_eq_true rfl) (Nat.le_of_ble_eq_true rfl) (Nat.le_of_ble_eq_true rfl) (c_Hx_at hnx 72 (Or.inl (rowW_of rfl (lt_of hnx (Nat.le_of_ble_eq_true rfl)))) x2 s) (fun y1 hy1 hs => ?_)
    refine x_ifle hs dX4_sweep_23 rfl (fun hs => ?_) (fun hs => ?_)
    · exact q_Fl_sweep_b61 hnx x1 x2 s hs hb he0
    · refine w_aload_n 0 dX4_sweep_26 rfl rfl ?_
      refine w_iload_n 2 dX4_sweep_27 rfl rfl ?_
      refine x_V_I M_X4_nextLevel [vi x2] [] hs rfl dX4_sweep_28 (lkX4_48 _ rfl) (lt_of hnx (Nat.le_of_ble_eq_true rfl)) rfl rfl (Nat.le_of_ble_eq_true rfl) (Nat.le_of_ble_eq_true rfl) (Nat.le_of_ble_eq_true rfl) (Nat.le_of_ble_eq_true rfl) (c_Fl_nextLevel hnx x2 s) (fun y2 hy2 hs => ?_)
      refine w_istore_n (lv' := [(3, vi y2), (0, .ref 71), (1, vi x1), (2, vi x2)]) dX4_sweep_31 rfl (Nat.le_of_ble_eq_true rfl) rfl ?_
      refine w_iload_n 2 dX4_sweep_32 rfl rfl ?_
      refine w_iload_n 0 dX4_sweep_33 rfl rfl ?_
      refine w_aload_n 1 dX4_sweep_34 rfl rfl ?_
      refine x_getR 4 2 (b := 73) dX4_sweep_35 (fxX4_19 rfl) rfl rfl (lt_of hnx (Nat.le_of_ble_eq_true rfl)) rfl ?_
      refine w_iload_n 3 dX4_sweep_38 rfl rfl ?_
      refine x_N_I M_X11_at [.ref 73, vi x2] [vi y2, vi x1] hs rfl dX4_sweep_39 (lkX4_31 _ rfl) (Nat.le_of_ble_eq_true rfl) (Nat.le_of_ble_eq_true rfl) (Nat.le_of_ble_eq_true rfl) (Nat.le_of_ble_eq_true rfl) (c_Hx_at hnx 73 (Or.inl (rowW_of rfl (lt_of hnx (Nat.le_of_ble_eq_true rfl)))) x2 s) (fun y3 hy3 hs => ?_)
      refine x_icmpeq hs dX4_sweep_42 rfl (fun hs => ?_) (fun hs => ?_)
      · refine x_iconst dX4_sweep_49 ?_
        refine w_lv (lv' := [(0, .ref 71), (2, vi x2), (3, vi y2)]) [1, 3, 0] rfl ?_
        exact q_Fl_sweep_b50 hnx x2 y2 x1 0 s hs hb he0
      · refine x_iconst dX4_sweep_45 ?_
        refine w_goto dX4_sweep_46 rfl ?_
        refine w_lv (lv' := [(0, .ref 71), (2, vi x2), (3, vi y2)]) [1, 3, 0] rfl ?_
        exact q_Fl_sweep_b50 hnx x2 y2 x1 1 s hs hb he0
set_option maxRecDepth 100000 in
theorem q_Fl_sweep_l4 {C : Cx} {nx : Nat} (hnx : 80 ≤ nx) (x1 : Int) (x2 : Int) (s : Sg) {o : Int × Sg} (hs : Fl_sweep_l4 x1 x2 s = some o) : ww C M_X4_sweep 2 0 0 nx (QI nx o.2 o.1) (XF) nx 0 0 4 [(0, .ref 71), (1, vi x1), (2, vi x2)] [] (hp nx s) := by
  unfold Fl_sweep_l4 at hs
  refine bnd_e hs (fun ρ hw hs => ?_)
  obtain ⟨x1_7, s_8⟩ := ρ
  have hE : ww C M_X4_sweep 2 0 0 nx (QI nx o.2 o.1) (XF) nx 0 0 67 [(1, vi x1_7)] [] (hp nx s_8) := by
    refine w_iload_n 0 dX4_sweep_67 rfl rfl ?_
    refine grd_e hs (fun hg9 hs => ?_)
    cases hs
    exact x_zreturn hg9 dX4_sweep_68 rfl rfl (Nat.le_of_ble_eq_true rfl) (Nat.le_of_ble_eq_true rfl) ⟨rfl, rfl⟩
  refine whl_w (P := fun σ => ww C M_X4_sweep 2 0 0 nx (QI nx o.2 o.1) (XF) nx 0 0 4 [(0, .ref 71), (1, vi σ.1), (2, vi σ.2.1)] [] (hp nx σ.2.2)) (E := fun ρ => ρ = (x1_7, s_8)) hw rfl ?_
  intro σ o' hs' hb' he'
  exact q_Fl_sweep_t4 hnx σ.1 σ.2.1 σ.2.2 hs' hb' (fun ρ e => by cases he' _ e; exact hE)
set_option maxRecDepth 100000 in
theorem c_Fl_sweep {C : Cx} {nx : Nat} (hnx : 80 ≤ nx)  (s : Sg) : ∀ o, Fl_sweep  s = some o → mm C M_X4_sweep 2 0 0 nx nx [.ref 71] (hp nx s) (QI nx o.2 o.1) (XF) := by
  intro o hs
  unfold Fl_sweep at hs
  refine mm_of rfl rfl (Nat.le_of_ble_eq_true rfl) ?_
  show ww C M_X4_sweep 2 0 0 nx (QI nx o.2 o.1) (XF) nx 0 0 0 [(0, .ref 71)] [] (hp nx s)
  refine x_iconst dX4_sweep_0 ?_
  refine w_istore_n (lv' := [(1, vi 0), (0, .ref 71)]) dX4_sweep_1 rfl (Nat.le_of_ble_eq_true rfl) rfl ?_
  refine x_iconst dX4_sweep_2 ?_
  refine w_istore_n (lv' := [(2, vi 0), (1, vi 0), (0, .ref 71)]) dX4_sweep_3 rfl (Nat.le_of_ble_eq_true rfl) rfl ?_
  refine w_lv (lv' := [(0, .ref 71), (1, vi 0), (2, vi 0)]) [2, 1, 0] rfl ?_
  exact q_Fl_sweep_l4 hnx 0 0 s hs
set_option maxRecDepth 100000 in
theorem q_Fl_amount_b62 {C : Cx} {nx : Nat} (hnx : 80 ≤ nx) {Qr : Option Value → Hp → Prop} {Qx : String → Hp → Prop}  (x1 : Int) (x2 : Int) (s : Sg) {o : ((Int × Int) ⊕ (Int))} (hs : Fl_amount_b62 x1 x2 s = some o) (hb : ∀ σ : Int × Int, o = .inl σ → ww C M_X4_amount 1 0 0 nx (Qr) (Qx) nx 0 0 4 [(0, .ref 71), (1, vi σ.1), (2, vi σ.2)] [] (hp nx s)) (he0 : ∀ ρ : Int, o = .inr ρ → ww C M_X4_amount 1 0 0 nx (Qr) (Qx) nx 0 0 68 [(1, vi ρ)] [] (hp nx s)) : ww C M_X4_amount 1 0 0 nx (Qr) (Qx) nx 0 0 62 [(0, .ref 71), (1, vi x1), (2, vi x2)] [] (hp nx s) := by
  unfold Fl_amount_b62 at hs
  refine x_iinc (lv' := [(2, vi (x2 + 1)), (0, .ref 71), (1, vi x1)]) 2 dX4_amount_62 rfl (Nat.le_of_ble_eq_true rfl) rfl ?_
  refine w_goto dX4_amount_65 rfl ?_
  refine w_lv (lv' := [(0, .ref 71), (1, vi x1), (2, vi (x2 + 1))]) [1, 2, 0] rfl ?_
  cases hs
  exact hb _ rfl
set_option maxRecDepth 100000 in
theorem q_Fl_amount_t4 {C : Cx} {nx : Nat} (hnx : 80 ≤ nx) {Qr : Option Value → Hp → Prop} {Qx : String → Hp → Prop}  (x1 : Int) (x2 : Int) (s : Sg) {o : ((Int × Int) ⊕ (Int))} (hs : Fl_amount_t4 x1 x2 s = some o) (hb : ∀ σ : Int × Int, o = .inl σ → ww C M_X4_amount 1 0 0 nx (Qr) (Qx) nx 0 0 4 [(0, .ref 71), (1, vi σ.1), (2, vi σ.2)] [] (hp nx s)) (he0 : ∀ ρ : Int, o = .inr ρ → ww C M_X4_amount 1 0 0 nx (Qr) (Qx) nx 0 0 68 [(1, vi ρ)] [] (hp nx s)) : ww C M_X4_amount 1 0 0 nx (Qr) (Qx) nx 0 0 4 [(0, .ref 71), (1, vi x1), (2, vi x2)] [] (hp nx s) := by
  unfold Fl_amount_t4 at hs
  refine w_iload_n 2 dX4_amount_4 rfl rfl ?_
  refine w_aload_n 0 dX4_amount_5 rfl rfl ?_
  refine x_getR 4 0 (b := 1) dX4_amount_6 (fxX4_9 rfl) rfl rfl (lt_of hnx (Nat.le_of_ble_eq_true rfl)) rfl ?_
  refine x_getI 5 4 dX4_amount_9 (fxX4_26 rfl) rfl rfl (lt_of hnx (Nat.le_of_ble_eq_true rfl)) ?_
  refine x_icmpge hs dX4_amount_12 rfl (fun hs => ?_) (fun hs => ?_)
  · refine w_lv (lv' := [(1, vi x1)]) [1] rfl ?_
    cases hs
    exact he0 _ rfl
  · refine w_aload_n 0 dX4_amount_15 rfl rfl ?_
    refine x_getR 4 0 (b := 1) dX4_amount_16 (fxX4_9 rfl) rfl rfl (lt_of hnx (Nat.le_of_ble_eq_true rfl)) rfl ?_
    refine w_iload_n 2 dX4_amount_19 rfl rfl ?_
    refine w_aload_n 0 dX4_amount_20 rfl rfl ?_
    refine x_getI 4 3 dX4_amount_21 (fxX4_22 rfl) rfl rfl (lt_of hnx (Nat.le_of_ble_eq_true rfl)) ?_
    refine x_V_I M_X5_edges [vi x2, vi (gi s 71 3)] [] hs rfl dX4_amount_24 (lkX4_52 _ rfl) (lt_of hnx (Nat.le_of_ble_eq_true rfl)) rfl rfl (Nat.le_of_ble_eq_true rfl) (Nat.le_of_ble_eq_true rfl) (Nat.le_of_ble_eq_true rfl) (Nat.le_of_ble_eq_true rfl) (c_Gr_edges hnx x2 (gi s 71 3) s) (fun y1 hy1 hs => ?_)
    refine x_iconst dX4_amount_27 ?_
    refine x_icmpne hs dX4_amount_28 rfl (fun hs => ?_) (fun hs => ?_)
    · exact q_Fl_amount_b62 hnx x1 x2 s hs hb he0
    · refine w_aload_n 0 dX4_amount_31 rfl rfl ?_
      refine x_getR 4 1 (b := 72) dX4_amount_32 (fxX4_15 rfl) rfl rfl (lt_of hnx (Nat.le_of_ble_eq_true rfl)) rfl ?_
      refine w_iload_n 2 dX4_amount_35 rfl rfl ?_
      refine x_N_I M_X11_at [.ref 72, vi x2] [] hs rfl dX4_amount_36 (lkX4_31 _ rfl) (Nat.le_of_ble_eq_true rfl) (Nat.le_of_ble_eq_true rfl) (Nat.le_of_ble_eq_true rfl) (Nat.le_of_ble_eq_true rfl) (c_Hx_at hnx 72 (Or.inl (rowW_of rfl (lt_of hnx (Nat.le_of_ble_eq_true rfl)))) x2 s) (fun y2 hy2 hs => ?_)
      refine x_ifle hs dX4_amount_39 rfl (fun hs => ?_) (fun hs => ?_)
      · exact q_Fl_amount_b62 hnx x1 x2 s hs hb he0
      · refine w_iload_n 1 dX4_amount_42 rfl rfl ?_
        refine w_aload_n 0 dX4_amount_43 rfl rfl ?_
        refine x_getR 4 1 (b := 72) dX4_amount_44 (fxX4_15 rfl) rfl rfl (lt_of hnx (Nat.le_of_ble_eq_true rfl)) rfl ?_
        refine w_iload_n 2 dX4_amount_47 rfl rfl ?_
        refine x_N_I M_X11_at [.ref 72, vi x2] [vi x1] hs rfl dX4_amount_48 (lkX4_31 _ rfl) (Nat.le_of_ble_eq_true rfl) (Nat.le_of_ble_eq_true rfl) (Nat.le_of_ble_eq_true rfl) (Nat.le_of_ble_eq_true rfl) (c_Hx_at hnx 72 (Or.inl (rowW_of rfl (lt_of hnx (Nat.le_of_ble_eq_true rfl)))) x2 s) (fun y3 hy3 hs => ?_)
        refine w_aload_n 0 dX4_amount_51 rfl rfl ?_
        refine x_getR 4 2 (b := 73) dX4_amount_52 (fxX4_19 rfl) rfl rfl (lt_of hnx (Nat.le_of_ble_eq_true rfl)) rfl ?_
        refine w_iload_n 2 dX4_amount_55 rfl rfl ?_
        refine x_N_I M_X11_at [.ref 73, vi x2] [vi y3, vi x1] hs rfl dX4_amount_56 (lkX4_31 _ rfl) (Nat.le_of_ble_eq_true rfl) (Nat.le_of_ble_eq_true rfl) (Nat.le_of_ble_eq_true rfl) (Nat.le_of_ble_eq_true rfl) (c_Hx_at hnx 73 (Or.inl (rowW_of rfl (lt_of hnx (Nat.le_of_ble_eq_true rfl)))) x2 s) (fun y4 hy4 hs => ?_)
        refine x_imul dX4_amount_59 ?_
        refine x_iadd dX4_amount_60 ?_
        refine x_istore_n (fun x1_5 => [(1, vi x1_5), (0, .ref 71), (2, vi x2)]) hs dX4_amount_61 rfl (Nat.le_of_ble_eq_true rfl) (fun _ => rfl) (fun x1_5 hs => ?_)
        refine w_lv (lv' := [(0, .ref 71), (1, vi x1_5), (2, vi x2)]) [1, 0, 2] rfl ?_
        exact q_Fl_amount_b62 hnx x1_5 x2 s hs hb he0
set_option maxRecDepth 100000 in
theorem q_Fl_amount_l4 {C : Cx} {nx : Nat} (hnx : 80 ≤ nx) (x1 : Int) (x2 : Int) (s : Sg) {o : Int} (hs : Fl_amount_l4 x1 x2 s = some o) : ww C M_X4_amount 1 0 0 nx (QI nx s o) (XF) nx 0 0 4 [(0, .ref 71), (1, vi x1), (2, vi x2)] [] (hp nx s) := by
  unfold Fl_amount_l4 at hs
  refine bnd_e hs (fun x1_6 hw hs => ?_)
  have hE : ww C M_X4_amount 1 0 0 nx (QI nx s o) (XF) nx 0 0 68 [(1, vi x1_6)] [] (hp nx s) := by
    refine w_iload_n 0 dX4_amount_68 rfl rfl ?_
    cases hs
    exact x_ireturn dX4_amount_69 rfl rfl (Nat.le_of_ble_eq_true rfl) (Nat.le_of_ble_eq_true rfl) ⟨rfl, rfl⟩
  refine whl_w (P := fun σ => ww C M_X4_amount 1 0 0 nx (QI nx s o) (XF) nx 0 0 4 [(0, .ref 71), (1, vi σ.1), (2, vi σ.2)] [] (hp nx s)) (E := fun ρ => ρ = x1_6) hw rfl ?_
  intro σ o' hs' hb' he'
  exact q_Fl_amount_t4 hnx σ.1 σ.2 s hs' hb' (fun ρ e => by cases he' _ e; exact hE)
set_option maxRecDepth 100000 in
theorem c_Fl_amount {C : Cx} {nx : Nat} (hnx : 80 ≤ nx)  (s : Sg) : ∀ o, Fl_amount  s = some o → mm C M_X4_amount 1 0 0 nx nx [.ref 71] (hp nx s) (QI nx s o) (XF) := by
  intro o hs
  unfold Fl_amount at hs
  refine mm_of rfl rfl (Nat.le_of_ble_eq_true rfl) ?_
  show ww C M_X4_amount 1 0 0 nx (QI nx s o) (XF) nx 0 0 0 [(0, .ref 71)] [] (hp nx s)
  refine x_iconst dX4_amount_0 ?_
  refine w_istore_n (lv' := [(1, vi 0), (0, .ref 71)]) dX4_amount_1 rfl (Nat.le_of_ble_eq_true rfl) rfl ?_
  refine x_iconst dX4_amount_2 ?_
  refine w_istore_n (lv' := [(2, vi 0), (1, vi 0), (0, .ref 71)]) dX4_amount_3 rfl (Nat.le_of_ble_eq_true rfl) rfl ?_
  refine w_lv (lv' := [(0, .ref 71), (1, vi 0), (2, vi 0)]) [2, 1, 0] rfl ?_
  exact q_Fl_amount_l4 hnx 0 0 s hs
set_option maxRecDepth 100000 in
theorem q_Fl_run_b82 {C : Cx} {nx : Nat} (hnx : 80 ≤ nx) {Qr : Option Value → Hp → Prop} {Qx : String → Hp → Prop}  (r1 : Nat) (h_r1 : isRow nx r1) (x3 : Int) (x4 : Int) (t1 : Int) (t2 : Int) (s : Sg) {o : ((Int × Sg) ⊕ (Sg))} (hs : Fl_run_b82 r1 x3 x4 t1 t2 s = some o) (hb : ∀ σ : Int × Sg, o = .inl σ → ww C M_X4_run 3 0 0 nx (Qr) (Qx) nx 0 0 8 [(0, .ref 71), (1, .ref r1), (3, vi x3), (4, vi σ.1)] [] (hp nx σ.2)) (he0 : ∀ ρ : Sg, o = .inr ρ → ww C M_X4_run 3 0 0 nx (Qr) (Qx) nx 0 0 91 [(0, .ref 71), (3, vi x3)] [] (hp nx ρ)) : ww C M_X4_run 3 0 0 nx (Qr) (Qx) nx 0 0 82 [(0, .ref 71), (1, .ref r1), (3, vi x3), (4, vi x4)] [vi t2, vi t1, .ref 73] (hp nx s) := by
  unfold Fl_run_b82 at hs
  refine x_N_V M_X11_set [.ref 73, vi t1, vi t2] [] hs rfl dX4_run_82 (lkX4_35 _ rfl) (Nat.le_of_ble_eq_true rfl) (Nat.le_of_ble_eq_true rfl) (Nat.le_of_ble_eq_true rfl) (Nat.le_of_ble_eq_true rfl) (c_Hx_set hnx 73 (rowW_of rfl (lt_of hnx (Nat.le_of_ble_eq_true rfl))) t1 t2 s) (fun s6 hs6 hs => ?_)
  refine x_iinc (lv' := [(4, vi (x4 + 1)), (0, .ref 71), (1, .ref r1), (3, vi x3)]) 3 dX4_run_85 rfl (Nat.le_of_ble_eq_true rfl) rfl ?_
  refine w_goto dX4_run_88 rfl ?_
  refine w_lv (lv' := [(0, .ref 71), (1, .ref r1), (3, vi x3), (4, vi (x4 + 1))]) [1, 2, 3, 0] rfl ?_
  cases hs
  exact hb _ rfl
set_option maxRecDepth 100000 in
theorem q_Fl_run_b52 {C : Cx} {nx : Nat} (hnx : 80 ≤ nx) {Qr : Option Value → Hp → Prop} {Qx : String → Hp → Prop}  (r1 : Nat) (h_r1 : isRow nx r1) (x3 : Int) (x4 : Int) (t0 : Int) (s : Sg) {o : ((Int × Sg) ⊕ (Sg))} (hs : Fl_run_b52 r1 x3 x4 t0 s = some o) (hb : ∀ σ : Int × Sg, o = .inl σ → ww C M_X4_run 3 0 0 nx (Qr) (Qx) nx 0 0 8 [(0, .ref 71), (1, .ref r1), (3, vi x3), (4, vi σ.1)] [] (hp nx σ.2)) (he0 : ∀ ρ : Sg, o = .inr ρ → ww C M_X4_run 3 0 0 nx (Qr) (Qx) nx 0 0 91 [(0, .ref 71), (3, vi x3)] [] (hp nx ρ)) : ww C M_X4_run 3 0 0 nx (Qr) (Qx) nx 0 0 52 [(0, .ref 71), (1, .ref r1), (3, vi x3), (4, vi x4)] [vi t0] (hp nx s) := by
  unfold Fl_run_b52 at hs
  refine w_istore (lv' := [(6, vi t0), (0, .ref 71), (1, .ref r1), (3, vi x3), (4, vi x4)]) dX4_run_52 (Nat.le_of_ble_eq_true rfl) rfl ?_
  refine w_aload_n 1 dX4_run_54 rfl rfl ?_
  refine x_getR 4 1 (b := 72) dX4_run_55 (fxX4_15 rfl) rfl rfl (lt_of hnx (Nat.le_of_ble_eq_true rfl)) rfl ?_
  refine w_iload 4 dX4_run_58 rfl ?_
  refine w_iload 0 dX4_run_60 rfl ?_
  refine x_N_V M_X11_set [.ref 72, vi x4, vi t0] [] hs rfl dX4_run_62 (lkX4_35 _ rfl) (Nat.le_of_ble_eq_true rfl) (Nat.le_of_ble_eq_true rfl) (Nat.le_of_ble_eq_true rfl) (Nat.le_of_ble_eq_true rfl) (c_Hx_set hnx 72 (rowW_of rfl (lt_of hnx (Nat.le_of_ble_eq_true rfl))) x4 t0 s) (fun s4 hs4 hs => ?_)
  refine w_aload_n 1 dX4_run_65 rfl rfl ?_
  refine x_getR 4 2 (b := 73) dX4_run_66 (fxX4_19 rfl) rfl rfl (lt_of hnx (Nat.le_of_ble_eq_true rfl)) rfl ?_
  refine w_iload 4 dX4_run_69 rfl ?_
  refine w_iload 0 dX4_run_71 rfl ?_
  refine x_ifne hs dX4_run_73 rfl (fun hs => ?_) (fun hs => ?_)
  · refine x_ldc 500000 dX4_run_80 (csX4_39 rfl) ?_
    refine w_lv (lv' := [(0, .ref 71), (1, .ref r1), (3, vi x3), (4, vi x4)]) [1, 2, 3, 4] rfl ?_
    exact q_Fl_run_b82 hnx r1 h_r1 x3 x4 x4 500000 s4 hs hb he0
  · refine x_iconst dX4_run_76 ?_
    refine w_goto dX4_run_77 rfl ?_
    refine w_lv (lv' := [(0, .ref 71), (1, .ref r1), (3, vi x3), (4, vi x4)]) [1, 2, 3, 4] rfl ?_
    exact q_Fl_run_b82 hnx r1 h_r1 x3 x4 x4 (-1) s4 hs hb he0
set_option maxRecDepth 100000 in
theorem q_Fl_run_t8 {C : Cx} {nx : Nat} (hnx : 80 ≤ nx) {Qr : Option Value → Hp → Prop} {Qx : String → Hp → Prop}  (r1 : Nat) (h_r1 : isRow nx r1) (x3 : Int) (x4 : Int) (s : Sg) {o : ((Int × Sg) ⊕ (Sg))} (hs : Fl_run_t8 r1 x3 x4 s = some o) (hb : ∀ σ : Int × Sg, o = .inl σ → ww C M_X4_run 3 0 0 nx (Qr) (Qx) nx 0 0 8 [(0, .ref 71), (1, .ref r1), (3, vi x3), (4, vi σ.1)] [] (hp nx σ.2)) (he0 : ∀ ρ : Sg, o = .inr ρ → ww C M_X4_run 3 0 0 nx (Qr) (Qx) nx 0 0 91 [(0, .ref 71), (3, vi x3)] [] (hp nx ρ)) : ww C M_X4_run 3 0 0 nx (Qr) (Qx) nx 0 0 8 [(0, .ref 71), (1, .ref r1), (3, vi x3), (4, vi x4)] [] (hp nx s) := by
  unfold Fl_run_t8 at hs
  refine w_iload 3 dX4_run_8 rfl ?_
  refine w_aload_n 0 dX4_run_10 rfl rfl ?_
  refine x_getR 4 0 (b := 1) dX4_run_11 (fxX4_9 rfl) rfl rfl (lt_of hnx (Nat.le_of_ble_eq_true rfl)) rfl ?_
  refine x_getI 5 4 dX4_run_14 (fxX4_26 rfl) rfl rfl (lt_of hnx (Nat.le_of_ble_eq_true rfl)) ?_
  refine x_icmpge hs dX4_run_17 rfl (fun hs => ?_) (fun hs => ?_)
  · refine w_lv (lv' := [(0, .ref 71), (3, vi x3)]) [0, 2] rfl ?_
    cases hs
    exact he0 _ rfl
  · refine w_aload_n 1 dX4_run_20 rfl rfl ?_
    refine w_iload 3 dX4_run_21 rfl ?_
    refine x_N_I M_X11_at [.ref r1, vi x4] [] hs rfl dX4_run_23 (lkX4_31 _ rfl) (Nat.le_of_ble_eq_true rfl) (Nat.le_of_ble_eq_true rfl) (Nat.le_of_ble_eq_true rfl) (Nat.le_of_ble_eq_true rfl) (c_Hx_at hnx r1 h_r1 x4 s) (fun y2 hy2 hs => ?_)
    refine w_istore (lv' := [(5, vi y2), (0, .ref 71), (1, .ref r1), (3, vi x3), (4, vi x4)]) dX4_run_26 (Nat.le_of_ble_eq_true rfl) rfl ?_
    refine w_iload 0 dX4_run_28 rfl ?_
    refine x_iconst dX4_run_30 ?_
    refine x_icmpne hs dX4_run_31 rfl (fun hs => ?_) (fun hs => ?_)
    · refine w_iload 0 dX4_run_38 rfl ?_
      refine w_aload_n 1 dX4_run_40 rfl rfl ?_
      refine x_getI 4 3 dX4_run_41 (fxX4_22 rfl) rfl rfl (lt_of hnx (Nat.le_of_ble_eq_true rfl)) ?_
      refine x_icmpne hs dX4_run_44 rfl (fun hs => ?_) (fun hs => ?_)
      · refine x_iconst dX4_run_51 ?_
        refine w_lv (lv' := [(0, .ref 71), (1, .ref r1), (3, vi x3), (4, vi x4)]) [1, 2, 3, 4] rfl ?_
        exact q_Fl_run_b52 hnx r1 h_r1 x3 x4 0 s hs hb he0
      · refine x_iconst dX4_run_47 ?_
        refine w_goto dX4_run_48 rfl ?_
        refine w_lv (lv' := [(0, .ref 71), (1, .ref r1), (3, vi x3), (4, vi x4)]) [1, 2, 3, 4] rfl ?_
        exact q_Fl_run_b52 hnx r1 h_r1 x3 x4 3 s hs hb he0
    · refine x_iconst dX4_run_34 ?_
      refine w_goto dX4_run_35 rfl ?_
      refine w_lv (lv' := [(0, .ref 71), (1, .ref r1), (3, vi x3), (4, vi x4)]) [1, 2, 3, 4] rfl ?_
      exact q_Fl_run_b52 hnx r1 h_r1 x3 x4 1 s hs hb he0
set_option maxRecDepth 100000 in
theorem q_Fl_run_t97 {C : Cx} {nx : Nat} (hnx : 80 ≤ nx) {Qr : Option Value → Hp → Prop} {Qx : String → Hp → Prop}  (x3 : Int) (x4 : Int) (x5 : Int) (s : Sg) {o : ((Int × Int × Sg) ⊕ (Sg))} (hs : Fl_run_t97 x3 x4 x5 s = some o) (hb : ∀ σ : Int × Int × Sg, o = .inl σ → ww C M_X4_run 3 0 0 nx (Qr) (Qx) nx 0 0 97 [(0, .ref 71), (3, vi x3), (4, vi σ.1), (5, vi σ.2.1)] [] (hp nx σ.2.2)) (he0 : ∀ ρ : Sg, o = .inr ρ → ww C M_X4_run 3 0 0 nx (Qr) (Qx) nx 0 0 120 [(0, .ref 71)] [] (hp nx ρ)) : ww C M_X4_run 3 0 0 nx (Qr) (Qx) nx 0 0 97 [(0, .ref 71), (3, vi x3), (4, vi x4), (5, vi x5)] [] (hp nx s) := by
  unfold Fl_run_t97 at hs
  refine w_iload 3 dX4_run_97 rfl ?_
  refine w_iload_n 1 dX4_run_99 rfl rfl ?_
  refine x_icmpge hs dX4_run_100 rfl (fun hs => ?_) (fun hs => ?_)
  · refine w_lv (lv' := [(0, .ref 71)]) [0] rfl ?_
    cases hs
    exact he0 _ rfl
  · refine w_iload 2 dX4_run_103 rfl ?_
    refine x_ifeq hs dX4_run_105 rfl (fun hs => ?_) (fun hs => ?_)
    · refine w_lv (lv' := [(0, .ref 71)]) [0] rfl ?_
      cases hs
      exact he0 _ rfl
    · refine w_aload_n 0 dX4_run_108 rfl rfl ?_
      refine x_V_B M_X4_sweep [] [] hs rfl dX4_run_109 (lkX4_40 _ rfl) (lt_of hnx (Nat.le_of_ble_eq_true rfl)) rfl rfl (Nat.le_of_ble_eq_true rfl) (Nat.le_of_ble_eq_true rfl) (Nat.le_of_ble_eq_true rfl) (Nat.le_of_ble_eq_true rfl) (c_Fl_sweep hnx s) (fun y8 s9 hy8 hs => ?_)
      refine w_istore (lv' := [(4, vi y8), (0, .ref 71), (3, vi x3), (5, vi x5)]) dX4_run_112 (Nat.le_of_ble_eq_true rfl) rfl ?_
      refine x_iinc (lv' := [(5, vi (x5 + 1)), (4, vi y8), (0, .ref 71), (3, vi x3)]) 3 dX4_run_114 rfl (Nat.le_of_ble_eq_true rfl) rfl ?_
      refine w_goto dX4_run_117 rfl ?_
      refine w_lv (lv' := [(0, .ref 71), (3, vi x3), (4, vi y8), (5, vi (x5 + 1))]) [2, 3, 1, 0] rfl ?_
      cases hs
      exact hb _ rfl
set_option maxRecDepth 100000 in
theorem q_Fl_run_b120 {C : Cx} {nx : Nat} (hnx : 80 ≤ nx)  (s : Sg) {o : Int × Sg} (hs : Fl_run_b120  s = some o) : ww C M_X4_run 3 0 0 nx (QI nx o.2 o.1) (XF) nx 0 0 120 [(0, .ref 71)] [] (hp nx s) := by
  unfold Fl_run_b120 at hs
  refine w_aload_n 0 dX4_run_120 rfl rfl ?_
  refine x_V_I M_X4_amount [] [] hs rfl dX4_run_121 (lkX4_44 _ rfl) (lt_of hnx (Nat.le_of_ble_eq_true rfl)) rfl rfl (Nat.le_of_ble_eq_true rfl) (Nat.le_of_ble_eq_true rfl) (Nat.le_of_ble_eq_true rfl) (Nat.le_of_ble_eq_true rfl) (c_Fl_amount hnx s) (fun y11 hy11 hs => ?_)
  cases hs
  exact x_ireturn dX4_run_124 rfl rfl (Nat.le_of_ble_eq_true rfl) (Nat.le_of_ble_eq_true rfl) ⟨rfl, rfl⟩
set_option maxRecDepth 100000 in
theorem q_Fl_run_l97 {C : Cx} {nx : Nat} (hnx : 80 ≤ nx) (x3 : Int) (x4 : Int) (x5 : Int) (s : Sg) {o : Int × Sg} (hs : Fl_run_l97 x3 x4 x5 s = some o) : ww C M_X4_run 3 0 0 nx (QI nx o.2 o.1) (XF) nx 0 0 97 [(0, .ref 71), (3, vi x3), (4, vi x4), (5, vi x5)] [] (hp nx s) := by
  unfold Fl_run_l97 at hs
  refine bnd_e hs (fun s_10 hw hs => ?_)
  have hE : ww C M_X4_run 3 0 0 nx (QI nx o.2 o.1) (XF) nx 0 0 120 [(0, .ref 71)] [] (hp nx s_10) := by
    exact q_Fl_run_b120 hnx  s_10 hs
  refine whl_w (P := fun σ => ww C M_X4_run 3 0 0 nx (QI nx o.2 o.1) (XF) nx 0 0 97 [(0, .ref 71), (3, vi x3), (4, vi σ.1), (5, vi σ.2.1)] [] (hp nx σ.2.2)) (E := fun ρ => ρ = s_10) hw rfl ?_
  intro σ o' hs' hb' he'
  exact q_Fl_run_t97 hnx x3 σ.1 σ.2.1 σ.2.2 hs' hb' (fun ρ e => by cases he' _ e; exact hE)
set_option maxRecDepth 100000 in
theorem q_Fl_run_l8 {C : Cx} {nx : Nat} (hnx : 80 ≤ nx) (r1 : Nat) (h_r1 : isRow nx r1) (x3 : Int) (x4 : Int) (s : Sg) {o : Int × Sg} (hs : Fl_run_l8 r1 x3 x4 s = some o) : ww C M_X4_run 3 0 0 nx (QI nx o.2 o.1) (XF) nx 0 0 8 [(0, .ref 71), (1, .ref r1), (3, vi x3), (4, vi x4)] [] (hp nx s) := by
  unfold Fl_run_l8 at hs
  refine bnd_e hs (fun s_7 hw hs => ?_)
  have hE : ww C M_X4_run 3 0 0 nx (QI nx o.2 o.1) (XF) nx 0 0 91 [(0, .ref 71), (3, vi x3)] [] (hp nx s_7) := by
    refine x_iconst dX4_run_91 ?_
    refine w_istore (lv' := [(4, vi 1), (0, .ref 71), (3, vi x3)]) dX4_run_92 (Nat.le_of_ble_eq_true rfl) rfl ?_
    refine x_iconst dX4_run_94 ?_
    refine w_istore (lv' := [(5, vi 0), (4, vi 1), (0, .ref 71), (3, vi x3)]) dX4_run_95 (Nat.le_of_ble_eq_true rfl) rfl ?_
    refine w_lv (lv' := [(0, .ref 71), (3, vi x3), (4, vi 1), (5, vi 0)]) [2, 3, 1, 0] rfl ?_
    exact q_Fl_run_l97 hnx x3 1 0 s_7 hs
  refine whl_w (P := fun σ => ww C M_X4_run 3 0 0 nx (QI nx o.2 o.1) (XF) nx 0 0 8 [(0, .ref 71), (1, .ref r1), (3, vi x3), (4, vi σ.1)] [] (hp nx σ.2)) (E := fun ρ => ρ = s_7) hw rfl ?_
  intro σ o' hs' hb' he'
  exact q_Fl_run_t8 hnx r1 h_r1 x3 σ.1 σ.2 hs' hb' (fun ρ e => by cases he' _ e; exact hE)
set_option maxRecDepth 100000 in
theorem c_Fl_run {C : Cx} {nx : Nat} (hnx : 80 ≤ nx) (r1 : Nat) (h_r1 : isRow nx r1) (x2 : Int) (x3 : Int) (s : Sg) : ∀ o, Fl_run r1 x2 x3 s = some o → mm C M_X4_run 3 0 0 nx nx [.ref 71, .ref r1, vi x2, vi x3] (hp nx s) (QI nx o.2 o.1) (XF) := by
  intro o hs
  unfold Fl_run at hs
  refine mm_of rfl rfl (Nat.le_of_ble_eq_true rfl) ?_
  show ww C M_X4_run 3 0 0 nx (QI nx o.2 o.1) (XF) nx 0 0 0 [(0, .ref 71), (1, .ref r1), (2, vi x2), (3, vi x3)] [] (hp nx s)
  refine w_aload_n 0 dX4_run_0 rfl rfl ?_
  refine w_iload_n 2 dX4_run_1 rfl rfl ?_
  refine x_putI 4 3 dX4_run_2 (poX4_22 rfl) rfl rfl (lt_of hnx (Nat.le_of_ble_eq_true rfl)) ?_
  refine nam_s hs (fun s1 hs => ?_)
  refine x_iconst dX4_run_5 ?_
  refine w_istore (lv' := [(4, vi 0), (0, .ref 71), (1, .ref r1), (2, vi x2), (3, vi x3)]) dX4_run_6 (Nat.le_of_ble_eq_true rfl) rfl ?_
  refine w_lv (lv' := [(0, .ref 71), (1, .ref r1), (3, vi x3), (4, vi 0)]) [1, 2, 4, 0] rfl ?_
  exact q_Fl_run_l8 hnx r1 h_r1 x3 0 s1 hs
set_option maxRecDepth 100000 in
theorem c_Fl_level {C : Cx} {nx : Nat} (hnx : 80 ≤ nx) (x1 : Int) (s : Sg) : ∀ o, Fl_level x1 s = some o → mm C M_X4_level 1 0 0 nx nx [.ref 71, vi x1] (hp nx s) (QI nx s o) (XF) := by
  intro o hs
  unfold Fl_level at hs
  refine mm_of rfl rfl (Nat.le_of_ble_eq_true rfl) ?_
  show ww C M_X4_level 1 0 0 nx (QI nx s o) (XF) nx 0 0 0 [(0, .ref 71), (1, vi x1)] [] (hp nx s)
  refine w_aload_n 0 dX4_level_0 rfl rfl ?_
  refine x_getR 4 2 (b := 73) dX4_level_1 (fxX4_19 rfl) rfl rfl (lt_of hnx (Nat.le_of_ble_eq_true rfl)) rfl ?_
  refine w_iload_n 1 dX4_level_4 rfl rfl ?_
  refine x_N_I M_X11_at [.ref 73, vi x1] [] hs rfl dX4_level_5 (lkX4_31 _ rfl) (Nat.le_of_ble_eq_true rfl) (Nat.le_of_ble_eq_true rfl) (Nat.le_of_ble_eq_true rfl) (Nat.le_of_ble_eq_true rfl) (c_Hx_at hnx 73 (Or.inl (rowW_of rfl (lt_of hnx (Nat.le_of_ble_eq_true rfl)))) x1 s) (fun y1 hy1 hs => ?_)
  cases hs
  exact x_ireturn dX4_level_8 rfl rfl (Nat.le_of_ble_eq_true rfl) (Nat.le_of_ble_eq_true rfl) ⟨rfl, rfl⟩
set_option maxRecDepth 100000 in
theorem c_Hx_potential {C : Cx} {nx : Nat} (hnx : 80 ≤ nx) (x1 : Int) (x2 : Int) (x3 : Int) (s : Sg) : ∀ o, Hx_potential x1 x2 x3 s = some o → mm C M_X11_potential 10 0 0 nx nx [.ref 0, vi x1, vi x2, vi x3] (hp nx s) (QT nx o) (XF) := by
  intro o hs
  unfold Hx_potential at hs
  refine mm_of rfl rfl (Nat.le_of_ble_eq_true rfl) ?_
  show ww C M_X11_potential 10 0 0 nx (QT nx o) (XF) nx 0 0 0 [(0, .ref 0), (1, vi x1), (2, vi x2), (3, vi x3)] [] (hp nx s)
  refine w_iload_n 1 dX11_potential_0 rfl rfl ?_
  refine x_S_U M_X11_requireSide [vi x1] [] hs rfl dX11_potential_1 (lkX11_211 _ rfl) (Nat.le_of_ble_eq_true rfl) (Nat.le_of_ble_eq_true rfl) (Nat.le_of_ble_eq_true rfl) (Nat.le_of_ble_eq_true rfl) (c_Hx_requireSide hnx x1 s) (fun y1 s2 hy1 hs => ?_)
  refine w_iload_n 3 dX11_potential_4 rfl rfl ?_
  refine x_iconst dX11_potential_5 ?_
  refine x_bipush dX11_potential_6 (by decide) ?_
  refine x_S_U M_X11_requireRange [vi x3, vi 0, vi 100] [] hs rfl dX11_potential_8 (lkX11_190 _ rfl) (Nat.le_of_ble_eq_true rfl) (Nat.le_of_ble_eq_true rfl) (Nat.le_of_ble_eq_true rfl) (Nat.le_of_ble_eq_true rfl) (c_Hx_requireRange hnx x3 0 100 s2) (fun y3 s4 hy3 hs => ?_)
  refine w_aload_n 0 dX11_potential_11 rfl rfl ?_
  refine w_iload_n 2 dX11_potential_12 rfl rfl ?_
  refine x_V_U M_X11_requireCell [vi x2] [] hs rfl dX11_potential_13 (lkX11_180 _ rfl) (lt_of hnx (Nat.le_of_ble_eq_true rfl)) rfl rfl (Nat.le_of_ble_eq_true rfl) (Nat.le_of_ble_eq_true rfl) (Nat.le_of_ble_eq_true rfl) (Nat.le_of_ble_eq_true rfl) (c_Hx_requireCell hnx x2 s4) (fun y5 s6 hy5 hs => ?_)
  refine w_aload_n 0 dX11_potential_16 rfl rfl ?_
  refine x_getR 11 13 (b := 71) dX11_potential_17 (fxX11_89 rfl) rfl rfl (lt_of hnx (Nat.le_of_ble_eq_true rfl)) rfl ?_
  refine w_aload_n 0 dX11_potential_20 rfl rfl ?_
  refine x_getR 11 2 (b := 10) dX11_potential_21 (fxX11_28 rfl) rfl rfl (lt_of hnx (Nat.le_of_ble_eq_true rfl)) rfl ?_
  refine x_getR 9 0 (b := 11) dX11_potential_24 (fxX11_194 rfl) rfl rfl (lt_of hnx (Nat.le_of_ble_eq_true rfl)) rfl ?_
  refine w_iload_n 1 dX11_potential_27 rfl rfl ?_
  refine w_iload_n 3 dX11_potential_28 rfl rfl ?_
  refine x_V_B M_X4_run [.ref 11, vi x1, vi x3] [] hs rfl dX11_potential_29 (lkX11_278 _ rfl) (lt_of hnx (Nat.le_of_ble_eq_true rfl)) rfl rfl (Nat.le_of_ble_eq_true rfl) (Nat.le_of_ble_eq_true rfl) (Nat.le_of_ble_eq_true rfl) (Nat.le_of_ble_eq_true rfl) (c_Fl_run hnx 11 (Or.inl (rowW_of rfl (lt_of hnx (Nat.le_of_ble_eq_true rfl)))) x1 x3 s6) (fun y7 s8 hy7 hs => ?_)
  refine w_pop dX11_potential_32 rfl ?_
  refine w_aload_n 0 dX11_potential_33 rfl rfl ?_
  refine x_getR 11 13 (b := 71) dX11_potential_34 (fxX11_89 rfl) rfl rfl (lt_of hnx (Nat.le_of_ble_eq_true rfl)) rfl ?_
  refine w_iload_n 2 dX11_potential_37 rfl rfl ?_
  refine x_V_I M_X4_level [vi x2] [] hs rfl dX11_potential_38 (lkX11_282 _ rfl) (lt_of hnx (Nat.le_of_ble_eq_true rfl)) rfl rfl (Nat.le_of_ble_eq_true rfl) (Nat.le_of_ble_eq_true rfl) (Nat.le_of_ble_eq_true rfl) (Nat.le_of_ble_eq_true rfl) (c_Fl_level hnx x2 s8) (fun y9 hy9 hs => ?_)
  cases hs
  exact x_ireturn dX11_potential_41 rfl rfl (Nat.le_of_ble_eq_true rfl) (Nat.le_of_ble_eq_true rfl) ⟨_, rfl, rfl, rfl⟩
set_option maxRecDepth 100000 in
theorem q_En_begin_b71 {C : Cx} {nx : Nat} (hnx : 80 ≤ nx) {Qr : Option Value → Hp → Prop} {Qx : String → Hp → Prop}  (r1 : Nat) (h_r1 : isRow nx r1) (x2 : Int) (s : Sg) {o : ((Int × Sg) ⊕ (Sg))} (hs : En_begin_b71 r1 x2 s = some o) (hb : ∀ σ : Int × Sg, o = .inl σ → ww C M_X2_begin 1 0 0 nx (Qr) (Qx) nx 0 0 7 [(0, .ref 74), (1, .ref r1), (2, vi σ.1)] [] (hp nx σ.2)) (he0 : ∀ ρ : Sg, o = .inr ρ → ww C M_X2_begin 1 0 0 nx (Qr) (Qx) nx 0 0 77 [(0, .ref 74)] [] (hp nx ρ)) : ww C M_X2_begin 1 0 0 nx (Qr) (Qx) nx 0 0 71 [(0, .ref 74), (1, .ref r1), (2, vi x2)] [] (hp nx s) := by
  unfold En_begin_b71 at hs
  refine x_iinc (lv' := [(2, vi (x2 + 1)), (0, .ref 74), (1, .ref r1)]) 2 dX2_begin_71 rfl (Nat.le_of_ble_eq_true rfl) rfl ?_
  refine w_goto dX2_begin_74 rfl ?_
  refine w_lv (lv' := [(0, .ref 74), (1, .ref r1), (2, vi (x2 + 1))]) [1, 2, 0] rfl ?_
  cases hs
  exact hb _ rfl
set_option maxRecDepth 100000 in
theorem q_En_begin_t7 {C : Cx} {nx : Nat} (hnx : 80 ≤ nx) {Qr : Option Value → Hp → Prop} {Qx : String → Hp → Prop}  (r1 : Nat) (h_r1 : isRow nx r1) (x2 : Int) (s : Sg) {o : ((Int × Sg) ⊕ (Sg))} (hs : En_begin_t7 r1 x2 s = some o) (hb : ∀ σ : Int × Sg, o = .inl σ → ww C M_X2_begin 1 0 0 nx (Qr) (Qx) nx 0 0 7 [(0, .ref 74), (1, .ref r1), (2, vi σ.1)] [] (hp nx σ.2)) (he0 : ∀ ρ : Sg, o = .inr ρ → ww C M_X2_begin 1 0 0 nx (Qr) (Qx) nx 0 0 77 [(0, .ref 74)] [] (hp nx ρ)) : ww C M_X2_begin 1 0 0 nx (Qr) (Qx) nx 0 0 7 [(0, .ref 74), (1, .ref r1), (2, vi x2)] [] (hp nx s) := by
  unfold En_begin_t7 at hs
  refine w_iload_n 2 dX2_begin_7 rfl rfl ?_
  refine w_aload_n 0 dX2_begin_8 rfl rfl ?_
  refine x_getR 2 0 (b := 1) dX2_begin_9 (fxX2_9 rfl) rfl rfl (lt_of hnx (Nat.le_of_ble_eq_true rfl)) rfl ?_
  refine x_getI 5 4 dX2_begin_12 (fxX2_33 rfl) rfl rfl (lt_of hnx (Nat.le_of_ble_eq_true rfl)) ?_
  refine x_icmpge hs dX2_begin_15 rfl (fun hs => ?_) (fun hs => ?_)
  · refine w_lv (lv' := [(0, .ref 74)]) [0] rfl ?_
    cases hs
    exact he0 _ rfl
  · refine w_aload_n 0 dX2_begin_18 rfl rfl ?_
    refine x_getR 2 2 (b := 75) dX2_begin_19 (fxX2_19 rfl) rfl rfl (lt_of hnx (Nat.le_of_ble_eq_true rfl)) rfl ?_
    refine w_iload_n 2 dX2_begin_22 rfl rfl ?_
    refine w_aload_n 1 dX2_begin_23 rfl rfl ?_
    refine w_iload_n 2 dX2_begin_24 rfl rfl ?_
    refine x_N_I M_X11_at [.ref r1, vi x2] [vi x2, .ref 75] hs rfl dX2_begin_25 (lkX2_38 _ rfl) (Nat.le_of_ble_eq_true rfl) (Nat.le_of_ble_eq_true rfl) (Nat.le_of_ble_eq_true rfl) (Nat.le_of_ble_eq_true rfl) (c_Hx_at hnx r1 h_r1 x2 s) (fun y2 hy2 hs => ?_)
    refine x_N_V M_X11_set [.ref 75, vi x2, vi y2] [] hs rfl dX2_begin_28 (lkX2_42 _ rfl) (Nat.le_of_ble_eq_true rfl) (Nat.le_of_ble_eq_true rfl) (Nat.le_of_ble_eq_true rfl) (Nat.le_of_ble_eq_true rfl) (c_Hx_set hnx 75 (rowW_of rfl (lt_of hnx (Nat.le_of_ble_eq_true rfl))) x2 y2 s) (fun s4 hs4 hs => ?_)
    refine w_aload_n 1 dX2_begin_31 rfl rfl ?_
    refine w_iload_n 2 dX2_begin_32 rfl rfl ?_
    refine x_N_I M_X11_at [.ref r1, vi x2] [] hs rfl dX2_begin_33 (lkX2_38 _ rfl) (Nat.le_of_ble_eq_true rfl) (Nat.le_of_ble_eq_true rfl) (Nat.le_of_ble_eq_true rfl) (Nat.le_of_ble_eq_true rfl) (c_Hx_at hnx r1 h_r1 x2 s4) (fun y5 hy5 hs => ?_)
    refine x_iconst dX2_begin_36 ?_
    refine x_icmpne hs dX2_begin_37 rfl (fun hs => ?_) (fun hs => ?_)
    · exact q_En_begin_b71 hnx r1 h_r1 x2 s4 hs hb he0
    · refine w_aload_n 0 dX2_begin_40 rfl rfl ?_
      refine x_getI 2 5 dX2_begin_41 (fxX2_29 rfl) rfl rfl (lt_of hnx (Nat.le_of_ble_eq_true rfl)) ?_
      refine x_bipush dX2_begin_44 (by decide) ?_
      refine x_icmpge hs dX2_begin_46 rfl (fun hs => ?_) (fun hs => ?_)
      · exact q_En_begin_b71 hnx r1 h_r1 x2 s4 hs hb he0
      · refine w_aload_n 0 dX2_begin_49 rfl rfl ?_
        refine x_getR 2 3 (b := 76) dX2_begin_50 (fxX2_23 rfl) rfl rfl (lt_of hnx (Nat.le_of_ble_eq_true rfl)) rfl ?_
        refine w_aload_n 0 dX2_begin_53 rfl rfl ?_
        refine x_getI 2 5 dX2_begin_54 (fxX2_29 rfl) rfl rfl (lt_of hnx (Nat.le_of_ble_eq_true rfl)) ?_
        refine w_iload_n 2 dX2_begin_57 rfl rfl ?_
        refine x_N_V M_X11_set [.ref 76, vi (gi s4 74 5), vi x2] [] hs rfl dX2_begin_58 (lkX2_42 _ rfl) (Nat.le_of_ble_eq_true rfl) (Nat.le_of_ble_eq_true rfl) (Nat.le_of_ble_eq_true rfl) (Nat.le_of_ble_eq_true rfl) (c_Hx_set hnx 76 (rowW_of rfl (lt_of hnx (Nat.le_of_ble_eq_true rfl))) (gi s4 74 5) x2 s4) (fun s7 hs7 hs => ?_)
        refine w_aload_n 0 dX2_begin_61 rfl rfl ?_
        refine w_dup dX2_begin_62 rfl ?_
        refine x_getI 2 5 dX2_begin_63 (fxX2_29 rfl) rfl rfl (lt_of hnx (Nat.le_of_ble_eq_true rfl)) ?_
        refine x_iconst dX2_begin_66 ?_
        refine x_iadd dX2_begin_67 ?_
        refine x_putI 2 5 dX2_begin_68 (poX2_29 rfl) rfl rfl (lt_of hnx (Nat.le_of_ble_eq_true rfl)) ?_
        refine nam_s hs (fun s8 hs => ?_)
        exact q_En_begin_b71 hnx r1 h_r1 x2 s8 hs hb he0
set_option maxRecDepth 100000 in
theorem q_En_begin_t79 {C : Cx} {nx : Nat} (hnx : 80 ≤ nx) {Qr : Option Value → Hp → Prop} {Qx : String → Hp → Prop}  (x2 : Int) (s : Sg) {o : ((Int × Sg) ⊕ (Sg))} (hs : En_begin_t79 x2 s = some o) (hb : ∀ σ : Int × Sg, o = .inl σ → ww C M_X2_begin 1 0 0 nx (Qr) (Qx) nx 0 0 79 [(0, .ref 74), (2, vi σ.1)] [] (hp nx σ.2)) (he0 : ∀ ρ : Sg, o = .inr ρ → ww C M_X2_begin 1 0 0 nx (Qr) (Qx) nx 0 0 101 [] [] (hp nx ρ)) : ww C M_X2_begin 1 0 0 nx (Qr) (Qx) nx 0 0 79 [(0, .ref 74), (2, vi x2)] [] (hp nx s) := by
  unfold En_begin_t79 at hs
  refine w_iload_n 1 dX2_begin_79 rfl rfl ?_
  refine w_aload_n 0 dX2_begin_80 rfl rfl ?_
  refine x_getR 2 4 (b := 77) dX2_begin_81 (fxX2_26 rfl) rfl rfl (lt_of hnx (Nat.le_of_ble_eq_true rfl)) rfl ?_
  refine x_alen dX2_begin_84 (Or.inl ⟨rfl, (lt_of hnx (Nat.le_of_ble_eq_true rfl))⟩) ?_
  refine x_icmpge hs dX2_begin_85 rfl (fun hs => ?_) (fun hs => ?_)
  · refine w_lv (lv' := []) [] rfl ?_
    cases hs
    exact he0 _ rfl
  · refine w_aload_n 0 dX2_begin_88 rfl rfl ?_
    refine x_getR 2 4 (b := 77) dX2_begin_89 (fxX2_26 rfl) rfl rfl (lt_of hnx (Nat.le_of_ble_eq_true rfl)) rfl ?_
    refine w_iload_n 1 dX2_begin_92 rfl rfl ?_
    refine x_iconst dX2_begin_93 ?_
    refine grd_e hs (fun hg10 hs => ?_)
    refine x_iast hg10 (Nat.le_of_ble_eq_true rfl) dX2_begin_94 rfl (lt_of hnx (Nat.le_of_ble_eq_true rfl)) ?_
    refine nam_s hs (fun s11 hs => ?_)
    refine x_iinc (lv' := [(2, vi (x2 + 1)), (0, .ref 74)]) 1 dX2_begin_95 rfl (Nat.le_of_ble_eq_true rfl) rfl ?_
    refine w_goto dX2_begin_98 rfl ?_
    refine w_lv (lv' := [(0, .ref 74), (2, vi (x2 + 1))]) [1, 0] rfl ?_
    cases hs
    exact hb _ rfl
set_option maxRecDepth 100000 in
theorem q_En_begin_l79 {C : Cx} {nx : Nat} (hnx : 80 ≤ nx) (x2 : Int) (s : Sg) {o : Sg} (hs : En_begin_l79 x2 s = some o) : ww C M_X2_begin 1 0 0 nx (QV nx o) (XF) nx 0 0 79 [(0, .ref 74), (2, vi x2)] [] (hp nx s) := by
  unfold En_begin_l79 at hs
  refine bnd_e hs (fun s_12 hw hs => ?_)
  have hE : ww C M_X2_begin 1 0 0 nx (QV nx o) (XF) nx 0 0 101 [] [] (hp nx s_12) := by
    cases hs
    exact w_return rfl dX2_begin_101 rfl (Nat.le_of_ble_eq_true rfl) (Nat.le_of_ble_eq_true rfl) ⟨rfl, rfl⟩
  refine whl_w (P := fun σ => ww C M_X2_begin 1 0 0 nx (QV nx o) (XF) nx 0 0 79 [(0, .ref 74), (2, vi σ.1)] [] (hp nx σ.2)) (E := fun ρ => ρ = s_12) hw rfl ?_
  intro σ o' hs' hb' he'
  exact q_En_begin_t79 hnx σ.1 σ.2 hs' hb' (fun ρ e => by cases he' _ e; exact hE)
set_option maxRecDepth 100000 in
theorem q_En_begin_l7 {C : Cx} {nx : Nat} (hnx : 80 ≤ nx) (r1 : Nat) (h_r1 : isRow nx r1) (x2 : Int) (s : Sg) {o : Sg} (hs : En_begin_l7 r1 x2 s = some o) : ww C M_X2_begin 1 0 0 nx (QV nx o) (XF) nx 0 0 7 [(0, .ref 74), (1, .ref r1), (2, vi x2)] [] (hp nx s) := by
  unfold En_begin_l7 at hs
  refine bnd_e hs (fun s_9 hw hs => ?_)
  have hE : ww C M_X2_begin 1 0 0 nx (QV nx o) (XF) nx 0 0 77 [(0, .ref 74)] [] (hp nx s_9) := by
    refine x_iconst dX2_begin_77 ?_
    refine w_istore_n (lv' := [(2, vi 0), (0, .ref 74)]) dX2_begin_78 rfl (Nat.le_of_ble_eq_true rfl) rfl ?_
    refine w_lv (lv' := [(0, .ref 74), (2, vi 0)]) [1, 0] rfl ?_
    exact q_En_begin_l79 hnx 0 s_9 hs
  refine whl_w (P := fun σ => ww C M_X2_begin 1 0 0 nx (QV nx o) (XF) nx 0 0 7 [(0, .ref 74), (1, .ref r1), (2, vi σ.1)] [] (hp nx σ.2)) (E := fun ρ => ρ = s_9) hw rfl ?_
  intro σ o' hs' hb' he'
  exact q_En_begin_t7 hnx r1 h_r1 σ.1 σ.2 hs' hb' (fun ρ e => by cases he' _ e; exact hE)
set_option maxRecDepth 100000 in
theorem c_En_begin {C : Cx} {nx : Nat} (hnx : 80 ≤ nx) (r1 : Nat) (h_r1 : isRow nx r1) (s : Sg) : ∀ o, En_begin r1 s = some o → mm C M_X2_begin 1 0 0 nx nx [.ref 74, .ref r1] (hp nx s) (QV nx o) (XF) := by
  intro o hs
  unfold En_begin at hs
  refine mm_of rfl rfl (Nat.le_of_ble_eq_true rfl) ?_
  show ww C M_X2_begin 1 0 0 nx (QV nx o) (XF) nx 0 0 0 [(0, .ref 74), (1, .ref r1)] [] (hp nx s)
  refine w_aload_n 0 dX2_begin_0 rfl rfl ?_
  refine x_iconst dX2_begin_1 ?_
  refine x_putI 2 5 dX2_begin_2 (poX2_29 rfl) rfl rfl (lt_of hnx (Nat.le_of_ble_eq_true rfl)) ?_
  refine nam_s hs (fun s1 hs => ?_)
  refine x_iconst dX2_begin_5 ?_
  refine w_istore_n (lv' := [(2, vi 0), (0, .ref 74), (1, .ref r1)]) dX2_begin_6 rfl (Nat.le_of_ble_eq_true rfl) rfl ?_
  refine w_lv (lv' := [(0, .ref 74), (1, .ref r1), (2, vi 0)]) [1, 2, 0] rfl ?_
  exact q_En_begin_l7 hnx r1 h_r1 0 s1 hs
set_option maxRecDepth 100000 in
theorem c_En_all {C : Cx} {nx : Nat} (hnx : 80 ≤ nx)  (s : Sg) : ∀ o, En_all  s = some o → mm C M_X2_all 0 0 0 nx nx [.ref 74] (hp nx s) (QI nx s o) (XF) := by
  intro o hs
  unfold En_all at hs
  refine mm_of rfl rfl (Nat.le_of_ble_eq_true rfl) ?_
  show ww C M_X2_all 0 0 0 nx (QI nx s o) (XF) nx 0 0 0 [(0, .ref 74)] [] (hp nx s)
  refine x_iconst dX2_all_0 ?_
  refine w_aload_n 0 dX2_all_1 rfl rfl ?_
  refine x_getI 2 5 dX2_all_2 (fxX2_29 rfl) rfl rfl (lt_of hnx (Nat.le_of_ble_eq_true rfl)) ?_
  refine x_ishl dX2_all_5 ?_
  refine x_iconst dX2_all_6 ?_
  refine x_isub dX2_all_7 ?_
  cases hs
  exact x_ireturn dX2_all_8 rfl rfl (Nat.le_of_ble_eq_true rfl) (Nat.le_of_ble_eq_true rfl) ⟨rfl, rfl⟩
set_option maxRecDepth 100000 in
theorem q_En_owner_b91 {C : Cx} {nx : Nat} (hnx : 80 ≤ nx) (x1 : Int) (s : Sg) {o : Int × Sg} (hs : En_owner_b91 x1 s = some o) : ww C M_X2_owner 3 0 0 nx (QI nx o.2 o.1) (XF) nx 0 0 91 [(0, .ref 74), (1, vi x1)] [] (hp nx s) := by
  unfold En_owner_b91 at hs
  refine w_aload_n 0 dX2_owner_91 rfl rfl ?_
  refine x_getR 2 4 (b := 77) dX2_owner_92 (fxX2_26 rfl) rfl rfl (lt_of hnx (Nat.le_of_ble_eq_true rfl)) rfl ?_
  refine w_iload_n 1 dX2_owner_95 rfl rfl ?_
  refine x_N_I M_X11_at [.ref 77, vi x1] [] hs rfl dX2_owner_96 (lkX2_38 _ rfl) (Nat.le_of_ble_eq_true rfl) (Nat.le_of_ble_eq_true rfl) (Nat.le_of_ble_eq_true rfl) (Nat.le_of_ble_eq_true rfl) (c_Hx_at hnx 77 (Or.inl (rowW_of rfl (lt_of hnx (Nat.le_of_ble_eq_true rfl)))) x1 s) (fun y2 hy2 hs => ?_)
  cases hs
  exact x_ireturn dX2_owner_99 rfl rfl (Nat.le_of_ble_eq_true rfl) (Nat.le_of_ble_eq_true rfl) ⟨rfl, rfl⟩
set_option maxRecDepth 100000 in
theorem q_En_owner_b47 {C : Cx} {nx : Nat} (hnx : 80 ≤ nx) {Qr : Option Value → Hp → Prop} {Qx : String → Hp → Prop}  (x1 : Int) (x2 : Int) (t1 : Int) (t2 : Int) (s : Sg) {o : ((Int × Sg) ⊕ (Sg))} (hs : En_owner_b47 x1 x2 t1 t2 s = some o) (hb : ∀ σ : Int × Sg, o = .inl σ → ww C M_X2_owner 3 0 0 nx (Qr) (Qx) nx 0 0 14 [(0, .ref 74), (1, vi x1), (2, vi σ.1)] [] (hp nx σ.2)) (he0 : ∀ ρ : Sg, o = .inr ρ → ww C M_X2_owner 3 0 0 nx (Qr) (Qx) nx 0 0 56 [(0, .ref 74), (1, vi x1)] [] (hp nx ρ)) : ww C M_X2_owner 3 0 0 nx (Qr) (Qx) nx 0 0 47 [(0, .ref 74), (1, vi x1), (2, vi x2)] [vi t2, vi t1, .ref 75] (hp nx s) := by
  unfold En_owner_b47 at hs
  refine x_N_V M_X11_set [.ref 75, vi t1, vi t2] [] hs rfl dX2_owner_47 (lkX2_42 _ rfl) (Nat.le_of_ble_eq_true rfl) (Nat.le_of_ble_eq_true rfl) (Nat.le_of_ble_eq_true rfl) (Nat.le_of_ble_eq_true rfl) (c_Hx_set hnx 75 (rowW_of rfl (lt_of hnx (Nat.le_of_ble_eq_true rfl))) t1 t2 s) (fun s5 hs5 hs => ?_)
  refine x_iinc (lv' := [(2, vi (x2 + 1)), (0, .ref 74), (1, vi x1)]) 2 dX2_owner_50 rfl (Nat.le_of_ble_eq_true rfl) rfl ?_
  refine w_goto dX2_owner_53 rfl ?_
  refine w_lv (lv' := [(0, .ref 74), (1, vi x1), (2, vi (x2 + 1))]) [1, 2, 0] rfl ?_
  cases hs
  exact hb _ rfl
set_option maxRecDepth 100000 in
theorem q_En_owner_t14 {C : Cx} {nx : Nat} (hnx : 80 ≤ nx) {Qr : Option Value → Hp → Prop} {Qx : String → Hp → Prop}  (x1 : Int) (x2 : Int) (s : Sg) {o : ((Int × Sg) ⊕ (Sg))} (hs : En_owner_t14 x1 x2 s = some o) (hb : ∀ σ : Int × Sg, o = .inl σ → ww C M_X2_owner 3 0 0 nx (Qr) (Qx) nx 0 0 14 [(0, .ref 74), (1, vi x1), (2, vi σ.1)] [] (hp nx σ.2)) (he0 : ∀ ρ : Sg, o = .inr ρ → ww C M_X2_owner 3 0 0 nx (Qr) (Qx) nx 0 0 56 [(0, .ref 74), (1, vi x1)] [] (hp nx ρ)) : ww C M_X2_owner 3 0 0 nx (Qr) (Qx) nx 0 0 14 [(0, .ref 74), (1, vi x1), (2, vi x2)] [] (hp nx s) := by
  unfold En_owner_t14 at hs
  refine w_iload_n 2 dX2_owner_14 rfl rfl ?_
  refine w_aload_n 0 dX2_owner_15 rfl rfl ?_
  refine x_getI 2 5 dX2_owner_16 (fxX2_29 rfl) rfl rfl (lt_of hnx (Nat.le_of_ble_eq_true rfl)) ?_
  refine x_icmpge hs dX2_owner_19 rfl (fun hs => ?_) (fun hs => ?_)
  · refine w_lv (lv' := [(0, .ref 74), (1, vi x1)]) [0, 1] rfl ?_
    cases hs
    exact he0 _ rfl
  · refine w_aload_n 0 dX2_owner_22 rfl rfl ?_
    refine x_getR 2 2 (b := 75) dX2_owner_23 (fxX2_19 rfl) rfl rfl (lt_of hnx (Nat.le_of_ble_eq_true rfl)) rfl ?_
    refine w_aload_n 0 dX2_owner_26 rfl rfl ?_
    refine x_getR 2 3 (b := 76) dX2_owner_27 (fxX2_23 rfl) rfl rfl (lt_of hnx (Nat.le_of_ble_eq_true rfl)) rfl ?_
    refine w_iload_n 2 dX2_owner_30 rfl rfl ?_
    refine x_N_I M_X11_at [.ref 76, vi x2] [.ref 75] hs rfl dX2_owner_31 (lkX2_38 _ rfl) (Nat.le_of_ble_eq_true rfl) (Nat.le_of_ble_eq_true rfl) (Nat.le_of_ble_eq_true rfl) (Nat.le_of_ble_eq_true rfl) (c_Hx_at hnx 76 (Or.inl (rowW_of rfl (lt_of hnx (Nat.le_of_ble_eq_true rfl)))) x2 s) (fun y3 hy3 hs => ?_)
    refine w_iload_n 1 dX2_owner_34 rfl rfl ?_
    refine x_iconst dX2_owner_35 ?_
    refine w_iload_n 2 dX2_owner_36 rfl rfl ?_
    refine x_ishl dX2_owner_37 ?_
    refine x_iand dX2_owner_38 ?_
    refine x_ifeq hs dX2_owner_39 rfl (fun hs => ?_) (fun hs => ?_)
    · refine x_iconst dX2_owner_46 ?_
      exact q_En_owner_b47 hnx x1 x2 y3 1 s hs hb he0
    · refine x_iconst dX2_owner_42 ?_
      refine w_goto dX2_owner_43 rfl ?_
      exact q_En_owner_b47 hnx x1 x2 y3 0 s hs hb he0
set_option maxRecDepth 100000 in
theorem q_En_owner_b88 {C : Cx} {nx : Nat} (hnx : 80 ≤ nx) (x1 : Int) (t1 : Int) (t2 : Int) (s : Sg) {o : Int × Sg} (hs : En_owner_b88 x1 t1 t2 s = some o) : ww C M_X2_owner 3 0 0 nx (QI nx o.2 o.1) (XF) nx 0 0 88 [(0, .ref 74), (1, vi x1)] [vi t2, vi t1, .ref 77] (hp nx s) := by
  unfold En_owner_b88 at hs
  refine x_N_V M_X11_set [.ref 77, vi t1, vi t2] [] hs rfl dX2_owner_88 (lkX2_42 _ rfl) (Nat.le_of_ble_eq_true rfl) (Nat.le_of_ble_eq_true rfl) (Nat.le_of_ble_eq_true rfl) (Nat.le_of_ble_eq_true rfl) (c_Hx_set hnx 77 (rowW_of rfl (lt_of hnx (Nat.le_of_ble_eq_true rfl))) t1 t2 s) (fun s11 hs11 hs => ?_)
  exact q_En_owner_b91 hnx x1 s11 hs
set_option maxRecDepth 100000 in
theorem q_En_owner_l14 {C : Cx} {nx : Nat} (hnx : 80 ≤ nx) (x1 : Int) (x2 : Int) (s : Sg) {o : Int × Sg} (hs : En_owner_l14 x1 x2 s = some o) : ww C M_X2_owner 3 0 0 nx (QI nx o.2 o.1) (XF) nx 0 0 14 [(0, .ref 74), (1, vi x1), (2, vi x2)] [] (hp nx s) := by
  unfold En_owner_l14 at hs
  refine bnd_e hs (fun s_6 hw hs => ?_)
  have hE : ww C M_X2_owner 3 0 0 nx (QI nx o.2 o.1) (XF) nx 0 0 56 [(0, .ref 74), (1, vi x1)] [] (hp nx s_6) := by
    refine w_aload_n 0 dX2_owner_56 rfl rfl ?_
    refine x_getR 2 1 (b := 5) dX2_owner_57 (fxX2_15 rfl) rfl rfl (lt_of hnx (Nat.le_of_ble_eq_true rfl)) rfl ?_
    refine w_aload_n 0 dX2_owner_60 rfl rfl ?_
    refine x_getR 2 2 (b := 75) dX2_owner_61 (fxX2_19 rfl) rfl rfl (lt_of hnx (Nat.le_of_ble_eq_true rfl)) rfl ?_
    refine x_iconst dX2_owner_64 ?_
    refine x_V_V M_X7_gather [.ref 75, vi 0] [] hs rfl dX2_owner_65 (lkX2_65 _ rfl) (lt_of hnx (Nat.le_of_ble_eq_true rfl)) rfl rfl (Nat.le_of_ble_eq_true rfl) (Nat.le_of_ble_eq_true rfl) (Nat.le_of_ble_eq_true rfl) (Nat.le_of_ble_eq_true rfl) (c_Li_gather hnx 75 (Or.inl (rowW_of rfl (lt_of hnx (Nat.le_of_ble_eq_true rfl)))) 0 s_6) (fun s8 hs8 hs => ?_)
    refine w_aload_n 0 dX2_owner_68 rfl rfl ?_
    refine x_getR 2 4 (b := 77) dX2_owner_69 (fxX2_26 rfl) rfl rfl (lt_of hnx (Nat.le_of_ble_eq_true rfl)) rfl ?_
    refine w_iload_n 1 dX2_owner_72 rfl rfl ?_
    refine w_aload_n 0 dX2_owner_73 rfl rfl ?_
    refine x_getR 2 1 (b := 5) dX2_owner_74 (fxX2_15 rfl) rfl rfl (lt_of hnx (Nat.le_of_ble_eq_true rfl)) rfl ?_
    refine x_V_I M_X7_joined [] [vi x1, .ref 77] hs rfl dX2_owner_77 (lkX2_71 _ rfl) (lt_of hnx (Nat.le_of_ble_eq_true rfl)) rfl rfl (Nat.le_of_ble_eq_true rfl) (Nat.le_of_ble_eq_true rfl) (Nat.le_of_ble_eq_true rfl) (Nat.le_of_ble_eq_true rfl) (c_Li_joined hnx s8) (fun y9 hy9 hs => ?_)
    refine x_ifeq hs dX2_owner_80 rfl (fun hs => ?_) (fun hs => ?_)
    · refine x_iconst dX2_owner_87 ?_
      exact q_En_owner_b88 hnx x1 x1 1 s8 hs
    · refine x_iconst dX2_owner_83 ?_
      refine w_goto dX2_owner_84 rfl ?_
      exact q_En_owner_b88 hnx x1 x1 0 s8 hs
  refine whl_w (P := fun σ => ww C M_X2_owner 3 0 0 nx (QI nx o.2 o.1) (XF) nx 0 0 14 [(0, .ref 74), (1, vi x1), (2, vi σ.1)] [] (hp nx σ.2)) (E := fun ρ => ρ = s_6) hw rfl ?_
  intro σ o' hs' hb' he'
  exact q_En_owner_t14 hnx x1 σ.1 σ.2 hs' hb' (fun ρ e => by cases he' _ e; exact hE)
set_option maxRecDepth 100000 in
theorem c_En_owner {C : Cx} {nx : Nat} (hnx : 80 ≤ nx) (x1 : Int) (s : Sg) : ∀ o, En_owner x1 s = some o → mm C M_X2_owner 3 0 0 nx nx [.ref 74, vi x1] (hp nx s) (QI nx o.2 o.1) (XF) := by
  intro o hs
  unfold En_owner at hs
  refine mm_of rfl rfl (Nat.le_of_ble_eq_true rfl) ?_
  show ww C M_X2_owner 3 0 0 nx (QI nx o.2 o.1) (XF) nx 0 0 0 [(0, .ref 74), (1, vi x1)] [] (hp nx s)
  refine w_aload_n 0 dX2_owner_0 rfl rfl ?_
  refine x_getR 2 4 (b := 77) dX2_owner_1 (fxX2_26 rfl) rfl rfl (lt_of hnx (Nat.le_of_ble_eq_true rfl)) rfl ?_
  refine w_iload_n 1 dX2_owner_4 rfl rfl ?_
  refine x_N_I M_X11_at [.ref 77, vi x1] [] hs rfl dX2_owner_5 (lkX2_38 _ rfl) (Nat.le_of_ble_eq_true rfl) (Nat.le_of_ble_eq_true rfl) (Nat.le_of_ble_eq_true rfl) (Nat.le_of_ble_eq_true rfl) (c_Hx_at hnx 77 (Or.inl (rowW_of rfl (lt_of hnx (Nat.le_of_ble_eq_true rfl)))) x1 s) (fun y1 hy1 hs => ?_)
  refine x_iconst dX2_owner_8 ?_
  refine x_icmpne hs dX2_owner_9 rfl (fun hs => ?_) (fun hs => ?_)
  · exact q_En_owner_b91 hnx x1 s hs
  · refine x_iconst dX2_owner_12 ?_
    refine w_istore_n (lv' := [(2, vi 0), (0, .ref 74), (1, vi x1)]) dX2_owner_13 rfl (Nat.le_of_ble_eq_true rfl) rfl ?_
    refine w_lv (lv' := [(0, .ref 74), (1, vi x1), (2, vi 0)]) [1, 2, 0] rfl ?_
    exact q_En_owner_l14 hnx x1 0 s hs
set_option maxRecDepth 100000 in
theorem q_En_best_b11 {C : Cx} {nx : Nat} (hnx : 80 ≤ nx) (n : Nat) (rec : Int → Int → Int → Int → Sg → Option (Int × Sg)) (hrec : ∀ x1 x2 x3 x4 s r, rec x1 x2 x3 x4 s = some r → mm C M_X2_best (4 + n) 0 0 nx nx [.ref 74, vi x1, vi x2, vi x3, vi x4] (hp nx s) (QI nx r.2 r.1) XF) (x2 : Int) (s : Sg) {o : Int × Sg} (hs : En_best_b11 rec x2 s = some o) : ww C M_X2_best (5 + n) 0 0 nx (QI nx o.2 o.1) (XF) nx 0 0 11 [(0, .ref 74), (2, vi x2)] [] (hp nx s) := by
  unfold En_best_b11 at hs
  refine w_aload_n 0 dX2_best_11 rfl rfl ?_
  refine w_iload_n 1 dX2_best_12 rfl rfl ?_
  refine x_V_B M_X2_owner [vi x2] [] hs rfl dX2_best_13 (lkX2_62 _ rfl) (lt_of hnx (Nat.le_of_ble_eq_true rfl)) rfl rfl (by omega) (Nat.le_of_ble_eq_true rfl) (Nat.le_of_ble_eq_true rfl) (Nat.le_of_ble_eq_true rfl) (c_En_owner hnx x2 s) (fun y1 s2 hy1 hs => ?_)
  cases hs
  exact x_ireturn dX2_best_16 rfl rfl (Nat.le_of_ble_eq_true rfl) (Nat.le_of_ble_eq_true rfl) ⟨rfl, rfl⟩
set_option maxRecDepth 100000 in
theorem q_En_best_b80 {C : Cx} {nx : Nat} (hnx : 80 ≤ nx) {Qr : Option Value → Hp → Prop} {Qx : String → Hp → Prop}  (n : Nat) (rec : Int → Int → Int → Int → Sg → Option (Int × Sg)) (hrec : ∀ x1 x2 x3 x4 s r, rec x1 x2 x3 x4 s = some r → mm C M_X2_best (4 + n) 0 0 nx nx [.ref 74, vi x1, vi x2, vi x3, vi x4] (hp nx s) (QI nx r.2 r.1) XF) (x1 : Int) (x2 : Int) (x3 : Int) (x4 : Int) (x5 : Int) (s : Sg) {o : ((Int × Sg) ⊕ ((Sg) ⊕ (Sg)))} (hs : En_best_b80 rec x1 x2 x3 x4 x5 s = some o) (hb : ∀ σ : Int × Sg, o = .inl σ → ww C M_X2_best (5 + n) 0 0 nx (Qr) (Qx) nx 0 0 20 [(0, .ref 74), (1, vi x1), (2, vi x2), (3, vi x3), (4, vi x4), (5, vi σ.1)] [] (hp nx σ.2)) (he0 : ∀ ρ : Sg, o = .inr (.inl ρ) → ww C M_X2_best (5 + n) 0 0 nx (Qr) (Qx) nx 0 0 78 [(3, vi x3)] [] (hp nx ρ)) (he1 : ∀ ρ : Sg, o = .inr (.inr ρ) → ww C M_X2_best (5 + n) 0 0 nx (Qr) (Qx) nx 0 0 86 [(3, vi x3)] [] (hp nx ρ)) : ww C M_X2_best (5 + n) 0 0 nx (Qr) (Qx) nx 0 0 80 [(0, .ref 74), (1, vi x1), (2, vi x2), (3, vi x3), (4, vi x4), (5, vi x5)] [] (hp nx s) := by
  unfold En_best_b80 at hs
  refine x_iinc (lv' := [(5, vi (x5 + 1)), (0, .ref 74), (1, vi x1), (2, vi x2), (3, vi x3), (4, vi x4)]) 5 dX2_best_80 rfl (Nat.le_of_ble_eq_true rfl) rfl ?_
  refine w_goto dX2_best_83 rfl ?_
  refine w_lv (lv' := [(0, .ref 74), (1, vi x1), (2, vi x2), (3, vi x3), (4, vi x4), (5, vi (x5 + 1))]) [1, 2, 3, 4, 5, 0] rfl ?_
  cases hs
  exact hb _ rfl
set_option maxRecDepth 100000 in
theorem q_En_best_b54 {C : Cx} {nx : Nat} (hnx : 80 ≤ nx) {Qr : Option Value → Hp → Prop} {Qx : String → Hp → Prop}  (n : Nat) (rec : Int → Int → Int → Int → Sg → Option (Int × Sg)) (hrec : ∀ x1 x2 x3 x4 s r, rec x1 x2 x3 x4 s = some r → mm C M_X2_best (4 + n) 0 0 nx nx [.ref 74, vi x1, vi x2, vi x3, vi x4] (hp nx s) (QI nx r.2 r.1) XF) (x1 : Int) (x2 : Int) (x3 : Int) (x4 : Int) (x5 : Int) (x6 : Int) (t0 : Int) (s : Sg) {o : ((Int × Sg) ⊕ ((Sg) ⊕ (Sg)))} (hs : En_best_b54 rec x1 x2 x3 x4 x5 x6 t0 s = some o) (hb : ∀ σ : Int × Sg, o = .inl σ → ww C M_X2_best (5 + n) 0 0 nx (Qr) (Qx) nx 0 0 20 [(0, .ref 74), (1, vi x1), (2, vi x2), (3, vi x3), (4, vi x4), (5, vi σ.1)] [] (hp nx σ.2)) (he0 : ∀ ρ : Sg, o = .inr (.inl ρ) → ww C M_X2_best (5 + n) 0 0 nx (Qr) (Qx) nx 0 0 78 [(3, vi x3)] [] (hp nx ρ)) (he1 : ∀ ρ : Sg, o = .inr (.inr ρ) → ww C M_X2_best (5 + n) 0 0 nx (Qr) (Qx) nx 0 0 86 [(3, vi x3)] [] (hp nx ρ)) : ww C M_X2_best (5 + n) 0 0 nx (Qr) (Qx) nx 0 0 54 [(0, .ref 74), (1, vi x1), (2, vi x2), (3, vi x3), (4, vi x4), (5, vi x5), (6, vi x6)] [vi t0] (hp nx s) := by
  unfold En_best_b54 at hs
  refine w_istore (lv' := [(7, vi t0), (0, .ref 74), (1, vi x1), (2, vi x2), (3, vi x3), (4, vi x4), (5, vi x5), (6, vi x6)]) dX2_best_54 (Nat.le_of_ble_eq_true rfl) rfl ?_
  refine w_aload_n 1 dX2_best_56 rfl rfl ?_
  refine w_iload_n 2 dX2_best_57 rfl rfl ?_
  refine w_iload 7 dX2_best_58 rfl ?_
  refine x_ixor dX2_best_60 ?_
  refine w_iload 0 dX2_best_61 rfl ?_
  refine w_iload_n 4 dX2_best_63 rfl rfl ?_
  refine x_N_I M_X11_otherSide [vi x3] [vi t0, vi (ixorI x1 x6), .ref 74] hs rfl dX2_best_64 (lkX2_58 _ rfl) (by omega) (Nat.le_of_ble_eq_true rfl) (Nat.le_of_ble_eq_true rfl) (Nat.le_of_ble_eq_true rfl) (c_Hx_otherSide hnx x3 s) (fun y4 hy4 hs => ?_)
  refine w_iload 5 dX2_best_67 rfl ?_
  refine x_iconst dX2_best_69 ?_
  refine x_iadd dX2_best_70 ?_
  refine x_V_B M_X2_best [vi (ixorI x1 x6), vi t0, vi y4, vi (x4 + 1)] [] hs rfl dX2_best_71 (lkX2_50 _ rfl) (lt_of hnx (Nat.le_of_ble_eq_true rfl)) rfl rfl (by omega) (Nat.le_of_ble_eq_true rfl) (Nat.le_of_ble_eq_true rfl) (Nat.le_of_ble_eq_true rfl) (hrec (ixorI x1 x6) t0 y4 (x4 + 1) s) (fun y5 s6 hy5 hs => ?_)
  refine w_iload_n 4 dX2_best_74 rfl rfl ?_
  refine x_icmpne hs dX2_best_75 rfl (fun hs => ?_) (fun hs => ?_)
  · refine w_lv (lv' := [(0, .ref 74), (1, vi x1), (2, vi x2), (3, vi x3), (4, vi x4), (5, vi x5)]) [1, 2, 3, 4, 5, 6] rfl ?_
    exact q_En_best_b80 hnx n rec hrec x1 x2 x3 x4 x5 s6 hs hb he0 he1
  · refine w_lv (lv' := [(3, vi x3)]) [4] rfl ?_
    cases hs
    exact he0 _ rfl
set_option maxRecDepth 100000 in
theorem q_En_best_t20 {C : Cx} {nx : Nat} (hnx : 80 ≤ nx) {Qr : Option Value → Hp → Prop} {Qx : String → Hp → Prop}  (n : Nat) (rec : Int → Int → Int → Int → Sg → Option (Int × Sg)) (hrec : ∀ x1 x2 x3 x4 s r, rec x1 x2 x3 x4 s = some r → mm C M_X2_best (4 + n) 0 0 nx nx [.ref 74, vi x1, vi x2, vi x3, vi x4] (hp nx s) (QI nx r.2 r.1) XF) (x1 : Int) (x2 : Int) (x3 : Int) (x4 : Int) (x5 : Int) (s : Sg) {o : ((Int × Sg) ⊕ ((Sg) ⊕ (Sg)))} (hs : En_best_t20 rec x1 x2 x3 x4 x5 s = some o) (hb : ∀ σ : Int × Sg, o = .inl σ → ww C M_X2_best (5 + n) 0 0 nx (Qr) (Qx) nx 0 0 20 [(0, .ref 74), (1, vi x1), (2, vi x2), (3, vi x3), (4, vi x4), (5, vi σ.1)] [] (hp nx σ.2)) (he0 : ∀ ρ : Sg, o = .inr (.inl ρ) → ww C M_X2_best (5 + n) 0 0 nx (Qr) (Qx) nx 0 0 78 [(3, vi x3)] [] (hp nx ρ)) (he1 : ∀ ρ : Sg, o = .inr (.inr ρ) → ww C M_X2_best (5 + n) 0 0 nx (Qr) (Qx) nx 0 0 86 [(3, vi x3)] [] (hp nx ρ)) : ww C M_X2_best (5 + n) 0 0 nx (Qr) (Qx) nx 0 0 20 [(0, .ref 74), (1, vi x1), (2, vi x2), (3, vi x3), (4, vi x4), (5, vi x5)] [] (hp nx s) := by
  unfold En_best_t20 at hs
  refine w_iload 5 dX2_best_20 rfl ?_
  refine w_aload_n 0 dX2_best_22 rfl rfl ?_
  refine x_getI 2 5 dX2_best_23 (fxX2_29 rfl) rfl rfl (lt_of hnx (Nat.le_of_ble_eq_true rfl)) ?_
  refine x_icmpge hs dX2_best_26 rfl (fun hs => ?_) (fun hs => ?_)
  · refine w_lv (lv' := [(3, vi x3)]) [3] rfl ?_
    cases hs
    exact he1 _ rfl
  · refine x_iconst dX2_best_29 ?_
    refine w_iload 5 dX2_best_30 rfl ?_
    refine x_ishl dX2_best_32 ?_
    refine x_istore (fun x6_3 => [(6, vi x6_3), (0, .ref 74), (1, vi x1), (2, vi x2), (3, vi x3), (4, vi x4), (5, vi x5)]) hs dX2_best_33 (Nat.le_of_ble_eq_true rfl) (fun _ => rfl) (fun x6_3 hs => ?_)
    refine w_iload_n 2 dX2_best_35 rfl rfl ?_
    refine w_iload 0 dX2_best_36 rfl ?_
    refine x_iand dX2_best_38 ?_
    refine x_ifeq hs dX2_best_39 rfl (fun hs => ?_) (fun hs => ?_)
    · refine w_lv (lv' := [(0, .ref 74), (1, vi x1), (2, vi x2), (3, vi x3), (4, vi x4), (5, vi x5)]) [1, 2, 3, 4, 5, 6] rfl ?_
      exact q_En_best_b80 hnx n rec hrec x1 x2 x3 x4 x5 s hs hb he0 he1
    · refine w_iload_n 4 dX2_best_42 rfl rfl ?_
      refine x_ifne hs dX2_best_43 rfl (fun hs => ?_) (fun hs => ?_)
      · refine w_iload_n 3 dX2_best_53 rfl rfl ?_
        refine w_lv (lv' := [(0, .ref 74), (1, vi x1), (2, vi x2), (3, vi x3), (4, vi x4), (5, vi x5), (6, vi x6_3)]) [1, 2, 3, 4, 5, 6, 0] rfl ?_
        exact q_En_best_b54 hnx n rec hrec x1 x2 x3 x4 x5 x6_3 x2 s hs hb he0 he1
      · refine w_iload_n 3 dX2_best_46 rfl rfl ?_
        refine w_iload 0 dX2_best_47 rfl ?_
        refine x_ior dX2_best_49 ?_
        refine w_goto dX2_best_50 rfl ?_
        refine w_lv (lv' := [(0, .ref 74), (1, vi x1), (2, vi x2), (3, vi x3), (4, vi x4), (5, vi x5), (6, vi x6_3)]) [1, 2, 3, 4, 5, 6, 0] rfl ?_
        exact q_En_best_b54 hnx n rec hrec x1 x2 x3 x4 x5 x6_3 (iorI x2 x6_3) s hs hb he0 he1
set_option maxRecDepth 100000 in
theorem q_En_best_l20 {C : Cx} {nx : Nat} (hnx : 80 ≤ nx) (n : Nat) (rec : Int → Int → Int → Int → Sg → Option (Int × Sg)) (hrec : ∀ x1 x2 x3 x4 s r, rec x1 x2 x3 x4 s = some r → mm C M_X2_best (4 + n) 0 0 nx nx [.ref 74, vi x1, vi x2, vi x3, vi x4] (hp nx s) (QI nx r.2 r.1) XF) (x1 : Int) (x2 : Int) (x3 : Int) (x4 : Int) (x5 : Int) (s : Sg) {o : Int × Sg} (hs : En_best_l20 rec x1 x2 x3 x4 x5 s = some o) : ww C M_X2_best (5 + n) 0 0 nx (QI nx o.2 o.1) (XF) nx 0 0 20 [(0, .ref 74), (1, vi x1), (2, vi x2), (3, vi x3), (4, vi x4), (5, vi x5)] [] (hp nx s) := by
  unfold En_best_l20 at hs
  refine bnd_e hs (fun ρ hw hs => ?_)
  rcases ρ with s_7 | s_8
  · have hE : ww C M_X2_best (5 + n) 0 0 nx (QI nx o.2 o.1) (XF) nx 0 0 78 [(3, vi x3)] [] (hp nx s_7) := by
      refine w_iload_n 0 dX2_best_78 rfl rfl ?_
      cases hs
      exact x_ireturn dX2_best_79 rfl rfl (Nat.le_of_ble_eq_true rfl) (Nat.le_of_ble_eq_true rfl) ⟨rfl, rfl⟩
    refine whl_w (P := fun σ => ww C M_X2_best (5 + n) 0 0 nx (QI nx o.2 o.1) (XF) nx 0 0 20 [(0, .ref 74), (1, vi x1), (2, vi x2), (3, vi x3), (4, vi x4), (5, vi σ.1)] [] (hp nx σ.2)) (E := fun ρ => ρ = (.inl s_7)) hw rfl ?_
    intro σ o' hs' hb' he'
    exact q_En_best_t20 hnx n rec hrec x1 x2 x3 x4 σ.1 σ.2 hs' hb' (fun ρ e => by cases he' _ e; exact hE) (fun ρ e => by cases he' _ e)
  · have hE : ww C M_X2_best (5 + n) 0 0 nx (QI nx o.2 o.1) (XF) nx 0 0 86 [(3, vi x3)] [] (hp nx s_8) := by
      refine w_iload_n 0 dX2_best_86 rfl rfl ?_
      refine x_N_I M_X11_otherSide [vi x3] [] hs rfl dX2_best_87 (lkX2_58 _ rfl) (by omega) (Nat.le_of_ble_eq_true rfl) (Nat.le_of_ble_eq_true rfl) (Nat.le_of_ble_eq_true rfl) (c_Hx_otherSide hnx x3 s_8) (fun y9 hy9 hs => ?_)
      cases hs
      exact x_ireturn dX2_best_90 rfl rfl (Nat.le_of_ble_eq_true rfl) (Nat.le_of_ble_eq_true rfl) ⟨rfl, rfl⟩
    refine whl_w (P := fun σ => ww C M_X2_best (5 + n) 0 0 nx (QI nx o.2 o.1) (XF) nx 0 0 20 [(0, .ref 74), (1, vi x1), (2, vi x2), (3, vi x3), (4, vi x4), (5, vi σ.1)] [] (hp nx σ.2)) (E := fun ρ => ρ = (.inr s_8)) hw rfl ?_
    intro σ o' hs' hb' he'
    exact q_En_best_t20 hnx n rec hrec x1 x2 x3 x4 σ.1 σ.2 hs' hb' (fun ρ e => by cases he' _ e) (fun ρ e => by cases he' _ e; exact hE)
set_option maxRecDepth 100000 in
theorem c_En_best {C : Cx} {nx : Nat} (hnx : 80 ≤ nx) : ∀ (n : Nat) (x1 : Int) (x2 : Int) (x3 : Int) (x4 : Int) (s : Sg), ∀ o, En_best n x1 x2 x3 x4 s = some o → mm C M_X2_best (4 + n) 0 0 nx nx [.ref 74, vi x1, vi x2, vi x3, vi x4] (hp nx s) (QI nx o.2 o.1) XF
  | 0, x1, x2, x3, x4, s, o, hs => by cases hs
  | n + 1, x1, x2, x3, x4, s, o, hs => by
    have hrec : ∀ x1 x2 x3 x4 s r, (En_best n) x1 x2 x3 x4 s = some r → mm C M_X2_best (4 + n) 0 0 nx nx [.ref 74, vi x1, vi x2, vi x3, vi x4] (hp nx s) (QI nx r.2 r.1) XF := fun x1 x2 x3 x4 s r h => c_En_best hnx n x1 x2 x3 x4 s r h
    generalize hr0 : En_best n = rec at hrec
    have hs : En_best_r rec x1 x2 x3 x4 s = some o := by rw [← hr0]; exact hs
    unfold En_best_r at hs
    rw [show (4 : Nat) + (n + 1) = 5 + n from by omega]
    refine mm_of rfl rfl (Nat.le_of_ble_eq_true rfl) ?_
    show ww C M_X2_best (5 + n) 0 0 nx (QI nx o.2 o.1) (XF) nx 0 0 0 [(0, .ref 74), (1, vi x1), (2, vi x2), (3, vi x3), (4, vi x4)] [] (hp nx s)
    refine w_iload_n 1 dX2_best_0 rfl rfl ?_
    refine x_ifeq hs dX2_best_1 rfl (fun hs => ?_) (fun hs => ?_)
    · refine w_lv (lv' := [(0, .ref 74), (2, vi x2)]) [0, 2] rfl ?_
      exact q_En_best_b11 hnx n rec hrec x2 s hs
    · refine w_iload 4 dX2_best_4 rfl ?_
      refine x_bipush dX2_best_6 (by decide) ?_
      refine x_icmplt hs dX2_best_8 rfl (fun hs => ?_) (fun hs => ?_)
      · refine x_iconst dX2_best_17 ?_
        refine w_istore (lv' := [(5, vi 0), (0, .ref 74), (1, vi x1), (2, vi x2), (3, vi x3), (4, vi x4)]) dX2_best_18 (Nat.le_of_ble_eq_true rfl) rfl ?_
        refine w_lv (lv' := [(0, .ref 74), (1, vi x1), (2, vi x2), (3, vi x3), (4, vi x4), (5, vi 0)]) [1, 2, 3, 4, 5, 0] rfl ?_
        exact q_En_best_l20 hnx n rec hrec x1 x2 x3 x4 0 s hs
      · refine w_lv (lv' := [(0, .ref 74), (2, vi x2)]) [0, 2] rfl ?_
        exact q_En_best_b11 hnx n rec hrec x2 s hs
set_option maxRecDepth 100000 in
theorem c_En_winner {C : Cx} {nx : Nat} (hnx : 80 ≤ nx) (x1 : Int) (s : Sg) : ∀ o, En_winner x1 s = some o → mm C M_X2_winner 13 0 0 nx nx [.ref 74, vi x1] (hp nx s) (QI nx o.2 o.1) (XF) := by
  intro o hs
  unfold En_winner at hs
  refine mm_of rfl rfl (Nat.le_of_ble_eq_true rfl) ?_
  show ww C M_X2_winner 13 0 0 nx (QI nx o.2 o.1) (XF) nx 0 0 0 [(0, .ref 74), (1, vi x1)] [] (hp nx s)
  refine w_aload_n 0 dX2_winner_0 rfl rfl ?_
  refine w_aload_n 0 dX2_winner_1 rfl rfl ?_
  refine x_V_I M_X2_all [] [.ref 74] hs rfl dX2_winner_2 (lkX2_46 _ rfl) (lt_of hnx (Nat.le_of_ble_eq_true rfl)) rfl rfl (Nat.le_of_ble_eq_true rfl) (Nat.le_of_ble_eq_true rfl) (Nat.le_of_ble_eq_true rfl) (Nat.le_of_ble_eq_true rfl) (c_En_all hnx s) (fun y1 hy1 hs => ?_)
  refine x_iconst dX2_winner_5 ?_
  refine w_iload_n 1 dX2_winner_6 rfl rfl ?_
  refine x_iconst dX2_winner_7 ?_
  refine x_V_B M_X2_best [vi y1, vi 0, vi x1, vi 0] [] hs rfl dX2_winner_8 (lkX2_50 _ rfl) (lt_of hnx (Nat.le_of_ble_eq_true rfl)) rfl rfl (Nat.le_of_ble_eq_true rfl) (Nat.le_of_ble_eq_true rfl) (Nat.le_of_ble_eq_true rfl) (Nat.le_of_ble_eq_true rfl) (c_En_best hnx 8 y1 0 x1 0 s) (fun y2 s3 hy2 hs => ?_)
  cases hs
  exact x_ireturn dX2_winner_11 rfl rfl (Nat.le_of_ble_eq_true rfl) (Nat.le_of_ble_eq_true rfl) ⟨rfl, rfl⟩
set_option maxRecDepth 100000 in
theorem c_Hx_solved {C : Cx} {nx : Nat} (hnx : 80 ≤ nx)  (s : Sg) : ∀ o, Hx_solved  s = some o → mm C M_X11_solved 14 0 0 nx nx [.ref 0] (hp nx s) (QI nx o.2 o.1) (XF) := by
  intro o hs
  unfold Hx_solved at hs
  refine mm_of rfl rfl (Nat.le_of_ble_eq_true rfl) ?_
  show ww C M_X11_solved 14 0 0 nx (QI nx o.2 o.1) (XF) nx 0 0 0 [(0, .ref 0)] [] (hp nx s)
  refine w_aload_n 0 dX11_solved_0 rfl rfl ?_
  refine x_V_B M_X11_winner [] [] hs rfl dX11_solved_1 (lkX11_161 _ rfl) (lt_of hnx (Nat.le_of_ble_eq_true rfl)) rfl rfl (Nat.le_of_ble_eq_true rfl) (Nat.le_of_ble_eq_true rfl) (Nat.le_of_ble_eq_true rfl) (Nat.le_of_ble_eq_true rfl) (c_Hx_winner hnx s) (fun y1 s2 hy1 hs => ?_)
  refine w_istore_n (lv' := [(1, vi y1), (0, .ref 0)]) dX11_solved_4 rfl (Nat.le_of_ble_eq_true rfl) rfl ?_
  refine w_iload_n 0 dX11_solved_5 rfl rfl ?_
  refine x_iconst dX11_solved_6 ?_
  refine x_icmpne hs dX11_solved_7 rfl (fun hs => ?_) (fun hs => ?_)
  · refine w_iload_n 0 dX11_solved_23 rfl rfl ?_
    cases hs
    exact x_ireturn dX11_solved_24 rfl rfl (Nat.le_of_ble_eq_true rfl) (Nat.le_of_ble_eq_true rfl) ⟨rfl, rfl⟩
  · refine w_aload_n 1 dX11_solved_10 rfl rfl ?_
    refine x_getR 11 2 (b := 10) dX11_solved_11 (fxX11_28 rfl) rfl rfl (lt_of hnx (Nat.le_of_ble_eq_true rfl)) rfl ?_
    refine x_iconst dX11_solved_14 ?_
    refine x_V_I M_X9_count [vi (-1)] [] hs rfl dX11_solved_15 (lkX11_151 _ rfl) (lt_of hnx (Nat.le_of_ble_eq_true rfl)) rfl rfl (Nat.le_of_ble_eq_true rfl) (Nat.le_of_ble_eq_true rfl) (Nat.le_of_ble_eq_true rfl) (Nat.le_of_ble_eq_true rfl) (c_Po_count hnx 10 (show 10 ∈ posL by decide) (-1) s2) (fun y3 hy3 hs => ?_)
    refine x_bipush dX11_solved_18 (by decide) ?_
    refine x_icmple hs dX11_solved_20 rfl (fun hs => ?_) (fun hs => ?_)
    · refine w_aload_n 1 dX11_solved_25 rfl rfl ?_
      refine x_getR 11 14 (b := 74) dX11_solved_26 (fxX11_98 rfl) rfl rfl (lt_of hnx (Nat.le_of_ble_eq_true rfl)) rfl ?_
      refine w_aload_n 1 dX11_solved_29 rfl rfl ?_
      refine x_getR 11 2 (b := 10) dX11_solved_30 (fxX11_28 rfl) rfl rfl (lt_of hnx (Nat.le_of_ble_eq_true rfl)) rfl ?_
      refine x_getR 9 0 (b := 11) dX11_solved_33 (fxX11_194 rfl) rfl rfl (lt_of hnx (Nat.le_of_ble_eq_true rfl)) rfl ?_
      refine x_V_V M_X2_begin [.ref 11] [] hs rfl dX11_solved_36 (lkX11_288 _ rfl) (lt_of hnx (Nat.le_of_ble_eq_true rfl)) rfl rfl (Nat.le_of_ble_eq_true rfl) (Nat.le_of_ble_eq_true rfl) (Nat.le_of_ble_eq_true rfl) (Nat.le_of_ble_eq_true rfl) (c_En_begin hnx 11 (Or.inl (rowW_of rfl (lt_of hnx (Nat.le_of_ble_eq_true rfl)))) s2) (fun s5 hs5 hs => ?_)
      refine w_aload_n 1 dX11_solved_39 rfl rfl ?_
      refine x_getR 11 14 (b := 74) dX11_solved_40 (fxX11_98 rfl) rfl rfl (lt_of hnx (Nat.le_of_ble_eq_true rfl)) rfl ?_
      refine w_aload_n 1 dX11_solved_43 rfl rfl ?_
      refine x_getR 11 2 (b := 10) dX11_solved_44 (fxX11_28 rfl) rfl rfl (lt_of hnx (Nat.le_of_ble_eq_true rfl)) rfl ?_
      refine x_getI 9 5 dX11_solved_47 (fxX11_158 rfl) rfl rfl (lt_of hnx (Nat.le_of_ble_eq_true rfl)) ?_
      refine x_V_B M_X2_winner [vi (gi s5 10 5)] [] hs rfl dX11_solved_50 (lkX11_291 _ rfl) (lt_of hnx (Nat.le_of_ble_eq_true rfl)) rfl rfl (Nat.le_of_ble_eq_true rfl) (Nat.le_of_ble_eq_true rfl) (Nat.le_of_ble_eq_true rfl) (Nat.le_of_ble_eq_true rfl) (c_En_winner hnx (gi s5 10 5) s5) (fun y6 s7 hy6 hs => ?_)
      cases hs
      exact x_ireturn dX11_solved_53 rfl rfl (Nat.le_of_ble_eq_true rfl) (Nat.le_of_ble_eq_true rfl) ⟨rfl, rfl⟩
    · refine w_iload_n 0 dX11_solved_23 rfl rfl ?_
      cases hs
      exact x_ireturn dX11_solved_24 rfl rfl (Nat.le_of_ble_eq_true rfl) (Nat.le_of_ble_eq_true rfl) ⟨rfl, rfl⟩
set_option maxRecDepth 100000 in
theorem q_En_isGood_b20 {C : Cx} {nx : Nat} (hnx : 80 ≤ nx) (x2 : Int) (t1 : Int) (t2 : Int) (s : Sg) {o : Int × Sg} (hs : En_isGood_b20 x2 t1 t2 s = some o) : ww C M_X2_isGood 13 0 0 nx (QI nx o.2 o.1) (XF) nx 0 0 20 [(2, vi x2)] [vi t2, vi t1, .ref 74] (hp nx s) := by
  unfold En_isGood_b20 at hs
  refine w_iload_n 0 dX2_isGood_20 rfl rfl ?_
  refine x_N_I M_X11_otherSide [vi x2] [vi t2, vi t1, .ref 74] hs rfl dX2_isGood_21 (lkX2_58 _ rfl) (Nat.le_of_ble_eq_true rfl) (Nat.le_of_ble_eq_true rfl) (Nat.le_of_ble_eq_true rfl) (Nat.le_of_ble_eq_true rfl) (c_Hx_otherSide hnx x2 s) (fun y3 hy3 hs => ?_)
  refine x_iconst dX2_isGood_24 ?_
  refine x_V_B M_X2_best [vi t1, vi t2, vi y3, vi 1] [] hs rfl dX2_isGood_25 (lkX2_50 _ rfl) (lt_of hnx (Nat.le_of_ble_eq_true rfl)) rfl rfl (Nat.le_of_ble_eq_true rfl) (Nat.le_of_ble_eq_true rfl) (Nat.le_of_ble_eq_true rfl) (Nat.le_of_ble_eq_true rfl) (c_En_best hnx 8 t1 t2 y3 1 s) (fun y4 s5 hy4 hs => ?_)
  refine w_iload_n 0 dX2_isGood_28 rfl rfl ?_
  refine x_icmpne hs dX2_isGood_29 rfl (fun hs => ?_) (fun hs => ?_)
  · refine x_iconst dX2_isGood_36 ?_
    cases hs
    exact x_zreturn (Or.inl rfl) dX2_isGood_37 rfl rfl (Nat.le_of_ble_eq_true rfl) (Nat.le_of_ble_eq_true rfl) ⟨rfl, rfl⟩
  · refine x_iconst dX2_isGood_32 ?_
    refine w_goto dX2_isGood_33 rfl ?_
    cases hs
    exact x_zreturn (Or.inr rfl) dX2_isGood_37 rfl rfl (Nat.le_of_ble_eq_true rfl) (Nat.le_of_ble_eq_true rfl) ⟨rfl, rfl⟩
set_option maxRecDepth 100000 in
theorem c_En_isGood {C : Cx} {nx : Nat} (hnx : 80 ≤ nx) (x1 : Int) (x2 : Int) (s : Sg) : ∀ o, En_isGood x1 x2 s = some o → mm C M_X2_isGood 13 0 0 nx nx [.ref 74, vi x1, vi x2] (hp nx s) (QI nx o.2 o.1) (XF) := by
  intro o hs
  unfold En_isGood at hs
  refine mm_of rfl rfl (Nat.le_of_ble_eq_true rfl) ?_
  show ww C M_X2_isGood 13 0 0 nx (QI nx o.2 o.1) (XF) nx 0 0 0 [(0, .ref 74), (1, vi x1), (2, vi x2)] [] (hp nx s)
  refine x_iconst dX2_isGood_0 ?_
  refine w_iload_n 1 dX2_isGood_1 rfl rfl ?_
  refine x_ishl dX2_isGood_2 ?_
  refine x_istore_n (fun x3_1 => [(3, vi x3_1), (0, .ref 74), (1, vi x1), (2, vi x2)]) hs dX2_isGood_3 rfl (Nat.le_of_ble_eq_true rfl) (fun _ => rfl) (fun x3_1 hs => ?_)
  refine w_aload_n 1 dX2_isGood_4 rfl rfl ?_
  refine w_aload_n 1 dX2_isGood_5 rfl rfl ?_
  refine x_V_I M_X2_all [] [.ref 74] hs rfl dX2_isGood_6 (lkX2_46 _ rfl) (lt_of hnx (Nat.le_of_ble_eq_true rfl)) rfl rfl (Nat.le_of_ble_eq_true rfl) (Nat.le_of_ble_eq_true rfl) (Nat.le_of_ble_eq_true rfl) (Nat.le_of_ble_eq_true rfl) (c_En_all hnx s) (fun y2 hy2 hs => ?_)
  refine w_iload_n 0 dX2_isGood_9 rfl rfl ?_
  refine x_ixor dX2_isGood_10 ?_
  refine w_iload_n 3 dX2_isGood_11 rfl rfl ?_
  refine x_ifne hs dX2_isGood_12 rfl (fun hs => ?_) (fun hs => ?_)
  · refine x_iconst dX2_isGood_19 ?_
    refine w_lv (lv' := [(2, vi x2)]) [3] rfl ?_
    exact q_En_isGood_b20 hnx x2 (ixorI y2 x3_1) 0 s hs
  · refine w_iload_n 0 dX2_isGood_15 rfl rfl ?_
    refine w_goto dX2_isGood_16 rfl ?_
    refine w_lv (lv' := [(2, vi x2)]) [3] rfl ?_
    exact q_En_isGood_b20 hnx x2 (ixorI y2 x3_1) x3_1 s hs
set_option maxRecDepth 100000 in
theorem q_En_countGood_b24 {C : Cx} {nx : Nat} (hnx : 80 ≤ nx) {Qr : Option Value → Hp → Prop} {Qx : String → Hp → Prop}  (x1 : Int) (x2 : Int) (x3 : Int) (s : Sg) {o : ((Int × Int × Sg) ⊕ (Int × Sg))} (hs : En_countGood_b24 x1 x2 x3 s = some o) (hb : ∀ σ : Int × Int × Sg, o = .inl σ → ww C M_X2_countGood 14 0 0 nx (Qr) (Qx) nx 0 0 4 [(0, .ref 74), (1, vi x1), (2, vi σ.1), (3, vi σ.2.1)] [] (hp nx σ.2.2)) (he0 : ∀ ρ : Int × Sg, o = .inr ρ → ww C M_X2_countGood 14 0 0 nx (Qr) (Qx) nx 0 0 30 [(2, vi ρ.1)] [] (hp nx ρ.2)) : ww C M_X2_countGood 14 0 0 nx (Qr) (Qx) nx 0 0 24 [(0, .ref 74), (1, vi x1), (2, vi x2), (3, vi x3)] [] (hp nx s) := by
  unfold En_countGood_b24 at hs
  refine x_iinc (lv' := [(3, vi (x3 + 1)), (0, .ref 74), (1, vi x1), (2, vi x2)]) 3 dX2_countGood_24 rfl (Nat.le_of_ble_eq_true rfl) rfl ?_
  refine w_goto dX2_countGood_27 rfl ?_
  refine w_lv (lv' := [(0, .ref 74), (1, vi x1), (2, vi x2), (3, vi (x3 + 1))]) [1, 2, 3, 0] rfl ?_
  cases hs
  exact hb _ rfl
set_option maxRecDepth 100000 in
theorem q_En_countGood_t4 {C : Cx} {nx : Nat} (hnx : 80 ≤ nx) {Qr : Option Value → Hp → Prop} {Qx : String → Hp → Prop}  (x1 : Int) (x2 : Int) (x3 : Int) (s : Sg) {o : ((Int × Int × Sg) ⊕ (Int × Sg))} (hs : En_countGood_t4 x1 x2 x3 s = some o) (hb : ∀ σ : Int × Int × Sg, o = .inl σ → ww C M_X2_countGood 14 0 0 nx (Qr) (Qx) nx 0 0 4 [(0, .ref 74), (1, vi x1), (2, vi σ.1), (3, vi σ.2.1)] [] (hp nx σ.2.2)) (he0 : ∀ ρ : Int × Sg, o = .inr ρ → ww C M_X2_countGood 14 0 0 nx (Qr) (Qx) nx 0 0 30 [(2, vi ρ.1)] [] (hp nx ρ.2)) : ww C M_X2_countGood 14 0 0 nx (Qr) (Qx) nx 0 0 4 [(0, .ref 74), (1, vi x1), (2, vi x2), (3, vi x3)] [] (hp nx s) := by
  unfold En_countGood_t4 at hs
  refine w_iload_n 3 dX2_countGood_4 rfl rfl ?_
  refine w_aload_n 0 dX2_countGood_5 rfl rfl ?_
  refine x_getI 2 5 dX2_countGood_6 (fxX2_29 rfl) rfl rfl (lt_of hnx (Nat.le_of_ble_eq_true rfl)) ?_
  refine x_icmpge hs dX2_countGood_9 rfl (fun hs => ?_) (fun hs => ?_)
  · refine w_lv (lv' := [(2, vi x2)]) [2] rfl ?_
    cases hs
    exact he0 _ rfl
  · refine w_aload_n 0 dX2_countGood_12 rfl rfl ?_
    refine w_iload_n 3 dX2_countGood_13 rfl rfl ?_
    refine w_iload_n 1 dX2_countGood_14 rfl rfl ?_
    refine x_V_B M_X2_isGood [vi x3, vi x1] [] hs rfl dX2_countGood_15 (lkX2_54 _ rfl) (lt_of hnx (Nat.le_of_ble_eq_true rfl)) rfl rfl (Nat.le_of_ble_eq_true rfl) (Nat.le_of_ble_eq_true rfl) (Nat.le_of_ble_eq_true rfl) (Nat.le_of_ble_eq_true rfl) (c_En_isGood hnx x3 x1 s) (fun y1 s2 hy1 hs => ?_)
    refine x_ifeq hs dX2_countGood_18 rfl (fun hs => ?_) (fun hs => ?_)
    · exact q_En_countGood_b24 hnx x1 x2 x3 s2 hs hb he0
    · refine x_iinc (lv' := [(2, vi (x2 + 1)), (0, .ref 74), (1, vi x1), (3, vi x3)]) 2 dX2_countGood_21 rfl (Nat.le_of_ble_eq_true rfl) rfl ?_
      refine w_lv (lv' := [(0, .ref 74), (1, vi x1), (2, vi (x2 + 1)), (3, vi x3)]) [1, 2, 0, 3] rfl ?_
      exact q_En_countGood_b24 hnx x1 (x2 + 1) x3 s2 hs hb he0
set_option maxRecDepth 100000 in
theorem q_En_countGood_l4 {C : Cx} {nx : Nat} (hnx : 80 ≤ nx) (x1 : Int) (x2 : Int) (x3 : Int) (s : Sg) {o : Int × Sg} (hs : En_countGood_l4 x1 x2 x3 s = some o) : ww C M_X2_countGood 14 0 0 nx (QI nx o.2 o.1) (XF) nx 0 0 4 [(0, .ref 74), (1, vi x1), (2, vi x2), (3, vi x3)] [] (hp nx s) := by
  unfold En_countGood_l4 at hs
  refine bnd_e hs (fun ρ hw hs => ?_)
  obtain ⟨x2_3, s_4⟩ := ρ
  have hE : ww C M_X2_countGood 14 0 0 nx (QI nx o.2 o.1) (XF) nx 0 0 30 [(2, vi x2_3)] [] (hp nx s_4) := by
    refine w_iload_n 0 dX2_countGood_30 rfl rfl ?_
    cases hs
    exact x_ireturn dX2_countGood_31 rfl rfl (Nat.le_of_ble_eq_true rfl) (Nat.le_of_ble_eq_true rfl) ⟨rfl, rfl⟩
  refine whl_w (P := fun σ => ww C M_X2_countGood 14 0 0 nx (QI nx o.2 o.1) (XF) nx 0 0 4 [(0, .ref 74), (1, vi x1), (2, vi σ.1), (3, vi σ.2.1)] [] (hp nx σ.2.2)) (E := fun ρ => ρ = (x2_3, s_4)) hw rfl ?_
  intro σ o' hs' hb' he'
  exact q_En_countGood_t4 hnx x1 σ.1 σ.2.1 σ.2.2 hs' hb' (fun ρ e => by cases he' _ e; exact hE)
set_option maxRecDepth 100000 in
theorem c_En_countGood {C : Cx} {nx : Nat} (hnx : 80 ≤ nx) (x1 : Int) (s : Sg) : ∀ o, En_countGood x1 s = some o → mm C M_X2_countGood 14 0 0 nx nx [.ref 74, vi x1] (hp nx s) (QI nx o.2 o.1) (XF) := by
  intro o hs
  unfold En_countGood at hs
  refine mm_of rfl rfl (Nat.le_of_ble_eq_true rfl) ?_
  show ww C M_X2_countGood 14 0 0 nx (QI nx o.2 o.1) (XF) nx 0 0 0 [(0, .ref 74), (1, vi x1)] [] (hp nx s)
  refine x_iconst dX2_countGood_0 ?_
  refine w_istore_n (lv' := [(2, vi 0), (0, .ref 74), (1, vi x1)]) dX2_countGood_1 rfl (Nat.le_of_ble_eq_true rfl) rfl ?_
  refine x_iconst dX2_countGood_2 ?_
  refine w_istore_n (lv' := [(3, vi 0), (2, vi 0), (0, .ref 74), (1, vi x1)]) dX2_countGood_3 rfl (Nat.le_of_ble_eq_true rfl) rfl ?_
  refine w_lv (lv' := [(0, .ref 74), (1, vi x1), (2, vi 0), (3, vi 0)]) [2, 3, 1, 0] rfl ?_
  exact q_En_countGood_l4 hnx x1 0 0 s hs
set_option maxRecDepth 100000 in
theorem c_Hx_goodMoves {C : Cx} {nx : Nat} (hnx : 80 ≤ nx)  (s : Sg) : ∀ o, Hx_goodMoves  s = some o → mm C M_X11_goodMoves 15 0 0 nx nx [.ref 0] (hp nx s) (QI nx o.2 o.1) (XF) := by
  intro o hs
  unfold Hx_goodMoves at hs
  refine mm_of rfl rfl (Nat.le_of_ble_eq_true rfl) ?_
  show ww C M_X11_goodMoves 15 0 0 nx (QI nx o.2 o.1) (XF) nx 0 0 0 [(0, .ref 0)] [] (hp nx s)
  refine w_aload_n 0 dX11_goodMoves_0 rfl rfl ?_
  refine x_V_B M_X11_winner [] [] hs rfl dX11_goodMoves_1 (lkX11_161 _ rfl) (lt_of hnx (Nat.le_of_ble_eq_true rfl)) rfl rfl (Nat.le_of_ble_eq_true rfl) (Nat.le_of_ble_eq_true rfl) (Nat.le_of_ble_eq_true rfl) (Nat.le_of_ble_eq_true rfl) (c_Hx_winner hnx s) (fun y1 s2 hy1 hs => ?_)
  refine x_iconst dX11_goodMoves_4 ?_
  refine x_icmpeq hs dX11_goodMoves_5 rfl (fun hs => ?_) (fun hs => ?_)
  · refine w_aload_n 0 dX11_goodMoves_10 rfl rfl ?_
    refine x_getR 11 2 (b := 10) dX11_goodMoves_11 (fxX11_28 rfl) rfl rfl (lt_of hnx (Nat.le_of_ble_eq_true rfl)) rfl ?_
    refine x_iconst dX11_goodMoves_14 ?_
    refine x_V_I M_X9_count [vi (-1)] [] hs rfl dX11_goodMoves_15 (lkX11_151 _ rfl) (lt_of hnx (Nat.le_of_ble_eq_true rfl)) rfl rfl (Nat.le_of_ble_eq_true rfl) (Nat.le_of_ble_eq_true rfl) (Nat.le_of_ble_eq_true rfl) (Nat.le_of_ble_eq_true rfl) (c_Po_count hnx 10 (show 10 ∈ posL by decide) (-1) s2) (fun y3 hy3 hs => ?_)
    refine x_bipush dX11_goodMoves_18 (by decide) ?_
    refine x_icmple hs dX11_goodMoves_20 rfl (fun hs => ?_) (fun hs => ?_)
    · refine w_aload_n 0 dX11_goodMoves_25 rfl rfl ?_
      refine x_getR 11 14 (b := 74) dX11_goodMoves_26 (fxX11_98 rfl) rfl rfl (lt_of hnx (Nat.le_of_ble_eq_true rfl)) rfl ?_
      refine w_aload_n 0 dX11_goodMoves_29 rfl rfl ?_
      refine x_getR 11 2 (b := 10) dX11_goodMoves_30 (fxX11_28 rfl) rfl rfl (lt_of hnx (Nat.le_of_ble_eq_true rfl)) rfl ?_
      refine x_getR 9 0 (b := 11) dX11_goodMoves_33 (fxX11_194 rfl) rfl rfl (lt_of hnx (Nat.le_of_ble_eq_true rfl)) rfl ?_
      refine x_V_V M_X2_begin [.ref 11] [] hs rfl dX11_goodMoves_36 (lkX11_288 _ rfl) (lt_of hnx (Nat.le_of_ble_eq_true rfl)) rfl rfl (Nat.le_of_ble_eq_true rfl) (Nat.le_of_ble_eq_true rfl) (Nat.le_of_ble_eq_true rfl) (Nat.le_of_ble_eq_true rfl) (c_En_begin hnx 11 (Or.inl (rowW_of rfl (lt_of hnx (Nat.le_of_ble_eq_true rfl)))) s2) (fun s5 hs5 hs => ?_)
      refine w_aload_n 0 dX11_goodMoves_39 rfl rfl ?_
      refine x_getR 11 14 (b := 74) dX11_goodMoves_40 (fxX11_98 rfl) rfl rfl (lt_of hnx (Nat.le_of_ble_eq_true rfl)) rfl ?_
      refine w_aload_n 0 dX11_goodMoves_43 rfl rfl ?_
      refine x_getR 11 2 (b := 10) dX11_goodMoves_44 (fxX11_28 rfl) rfl rfl (lt_of hnx (Nat.le_of_ble_eq_true rfl)) rfl ?_
      refine x_getI 9 5 dX11_goodMoves_47 (fxX11_158 rfl) rfl rfl (lt_of hnx (Nat.le_of_ble_eq_true rfl)) ?_
      refine x_V_B M_X2_countGood [vi (gi s5 10 5)] [] hs rfl dX11_goodMoves_50 (lkX11_293 _ rfl) (lt_of hnx (Nat.le_of_ble_eq_true rfl)) rfl rfl (Nat.le_of_ble_eq_true rfl) (Nat.le_of_ble_eq_true rfl) (Nat.le_of_ble_eq_true rfl) (Nat.le_of_ble_eq_true rfl) (c_En_countGood hnx (gi s5 10 5) s5) (fun y6 s7 hy6 hs => ?_)
      cases hs
      exact x_ireturn dX11_goodMoves_53 rfl rfl (Nat.le_of_ble_eq_true rfl) (Nat.le_of_ble_eq_true rfl) ⟨rfl, rfl⟩
    · refine x_iconst dX11_goodMoves_23 ?_
      cases hs
      exact x_ireturn dX11_goodMoves_24 rfl rfl (Nat.le_of_ble_eq_true rfl) (Nat.le_of_ble_eq_true rfl) ⟨rfl, rfl⟩
  · refine x_iconst dX11_goodMoves_8 ?_
    cases hs
    exact x_ireturn dX11_goodMoves_9 rfl rfl (Nat.le_of_ble_eq_true rfl) (Nat.le_of_ble_eq_true rfl) ⟨rfl, rfl⟩

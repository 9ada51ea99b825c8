set_option maxRecDepth 100000 in
theorem c_Hx_forced {C : Cx} {nx : Nat} (hnx : 80 ≤ nx)  (s : Sg) : ∀ o, Hx_forced  s = some o → mm C M_X11_forced 6 0 0 nx nx [.ref 0] (hp nx s) (QI nx o.2 o.1) (XF) := by
  intro o hs
  unfold Hx_forced at hs
  refine mm_of rfl rfl (Nat.le_of_ble_eq_true rfl) ?_
  show ww C M_X11_forced 6 0 0 nx (QI nx o.2 o.1) (XF) nx 0 0 0 [(0, .ref 0)] [] (hp nx s)
  refine w_aload_n 0 dX11_forced_0 rfl rfl ?_
  refine x_V_B M_X11_forcedCell [] [] hs rfl dX11_forced_1 (lkX11_262 _ rfl) (lt_of hnx (Nat.le_of_ble_eq_true rfl)) rfl rfl (Nat.le_of_ble_eq_true rfl) (Nat.le_of_ble_eq_true rfl) (Nat.le_of_ble_eq_true rfl) (Nat.le_of_ble_eq_true rfl) (c_Hx_forcedCell hnx s) (fun y1 s2 hy1 hs => ?_)
  cases hs
  exact x_ireturn dX11_forced_4 rfl rfl (Nat.le_of_ble_eq_true rfl) (Nat.le_of_ble_eq_true rfl) ⟨rfl, rfl⟩
set_option maxRecDepth 100000 in
theorem q_Pa_lower_b76 {C : Cx} {nx : Nat} (hnx : 80 ≤ nx) {Qr : Option Value → Hp → Prop} {Qx : String → Hp → Prop}  (r0 : Nat) (h_r0 : isPaths r0) (r1 : Nat) (h_r1 : isRowW nx r1) (x2 : Int) (x3 : Int) (x4 : Int) (x5 : Int) (s : Sg) {o : ((Int × Int) ⊕ (Int))} (hs : Pa_lower_b76 r0 r1 x2 x3 x4 x5 s = some o) (hb : ∀ σ : Int × Int, o = .inl σ → ww C M_X8_lower 1 0 0 nx (Qr) (Qx) nx 0 0 26 [(0, .ref r0), (1, .ref r1), (2, vi x2), (3, vi x3), (4, vi σ.1), (5, vi σ.2)] [] (hp nx s)) (he0 : ∀ ρ : Int, o = .inr ρ → ww C M_X8_lower 1 0 0 nx (Qr) (Qx) nx 0 0 82 [(1, .ref r1), (2, vi x2), (4, vi ρ)] [] (hp nx s)) : ww C M_X8_lower 1 0 0 nx (Qr) (Qx) nx 0 0 76 [(0, .ref r0), (1, .ref r1), (2, vi x2), (3, vi x3), (4, vi x4), (5, vi x5)] [] (hp nx s) := by
  unfold Pa_lower_b76 at hs
  refine x_iinc (lv' := [(5, vi (x5 + 1)), (0, .ref r0), (1, .ref r1), (2, vi x2), (3, vi x3), (4, vi x4)]) 5 dX8_lower_76 rfl (Nat.le_of_ble_eq_true rfl) rfl ?_
  refine w_goto dX8_lower_79 rfl ?_
  refine w_lv (lv' := [(0, .ref r0), (1, .ref r1), (2, vi x2), (3, vi x3), (4, vi x4), (5, vi (x5 + 1))]) [1, 2, 3, 4, 5, 0] rfl ?_
  cases hs
  exact hb _ rfl
set_option maxRecDepth 100000 in
theorem q_Pa_lower_b70 {C : Cx} {nx : Nat} (hnx : 80 ≤ nx) {Qr : Option Value → Hp → Prop} {Qx : String → Hp → Prop}  (r0 : Nat) (h_r0 : isPaths r0) (r1 : Nat) (h_r1 : isRowW nx r1) (x2 : Int) (x3 : Int) (x5 : Int) (x6 : Int) (s : Sg) {o : ((Int × Int) ⊕ (Int))} (hs : Pa_lower_b70 r0 r1 x2 x3 x5 x6 s = some o) (hb : ∀ σ : Int × Int, o = .inl σ → ww C M_X8_lower 1 0 0 nx (Qr) (Qx) nx 0 0 26 [(0, .ref r0), (1, .ref r1), (2, vi x2), (3, vi x3), (4, vi σ.1), (5, vi σ.2)] [] (hp nx s)) (he0 : ∀ ρ : Int, o = .inr ρ → ww C M_X8_lower 1 0 0 nx (Qr) (Qx) nx 0 0 82 [(1, .ref r1), (2, vi x2), (4, vi ρ)] [] (hp nx s)) : ww C M_X8_lower 1 0 0 nx (Qr) (Qx) nx 0 0 70 [(0, .ref r0), (1, .ref r1), (2, vi x2), (3, vi x3), (5, vi x5), (6, vi x6)] [] (hp nx s) := by
  unfold Pa_lower_b70 at hs
  refine w_iload 5 dX8_lower_70 rfl ?_
  refine w_iload_n 3 dX8_lower_72 rfl rfl ?_
  refine x_iadd dX8_lower_73 ?_
  refine x_istore (fun x4_5 => [(4, vi x4_5), (0, .ref r0), (1, .ref r1), (2, vi x2), (3, vi x3), (5, vi x5), (6, vi x6)]) hs dX8_lower_74 (Nat.le_of_ble_eq_true rfl) (fun _ => rfl) (fun x4_5 hs => ?_)
  refine w_lv (lv' := [(0, .ref r0), (1, .ref r1), (2, vi x2), (3, vi x3), (4, vi x4_5), (5, vi x5)]) [1, 2, 3, 4, 0, 5] rfl ?_
  exact q_Pa_lower_b76 hnx r0 h_r0 r1 h_r1 x2 x3 x4_5 x5 s hs hb he0
set_option maxRecDepth 100000 in
theorem q_Pa_lower_t26 {C : Cx} {nx : Nat} (hnx : 80 ≤ nx) {Qr : Option Value → Hp → Prop} {Qx : String → Hp → Prop}  (r0 : Nat) (h_r0 : isPaths r0) (r1 : Nat) (h_r1 : isRowW nx r1) (x2 : Int) (x3 : Int) (x4 : Int) (x5 : Int) (s : Sg) {o : ((Int × Int) ⊕ (Int))} (hs : Pa_lower_t26 r0 r1 x2 x3 x4 x5 s = some o) (hb : ∀ σ : Int × Int, o = .inl σ → ww C M_X8_lower 1 0 0 nx (Qr) (Qx) nx 0 0 26 [(0, .ref r0), (1, .ref r1), (2, vi x2), (3, vi x3), (4, vi σ.1), (5, vi σ.2)] [] (hp nx s)) (he0 : ∀ ρ : Int, o = .inr ρ → ww C M_X8_lower 1 0 0 nx (Qr) (Qx) nx 0 0 82 [(1, .ref r1), (2, vi x2), (4, vi ρ)] [] (hp nx s)) : ww C M_X8_lower 1 0 0 nx (Qr) (Qx) nx 0 0 26 [(0, .ref r0), (1, .ref r1), (2, vi x2), (3, vi x3), (4, vi x4), (5, vi x5)] [] (hp nx s) := by
  unfold Pa_lower_t26 at hs
  refine w_iload 5 dX8_lower_26 rfl ?_
  refine x_bipush dX8_lower_28 (by decide) ?_
  refine x_icmpge hs dX8_lower_30 rfl (fun hs => ?_) (fun hs => ?_)
  · refine w_lv (lv' := [(1, .ref r1), (2, vi x2), (4, vi x4)]) [1, 2, 4] rfl ?_
    cases hs
    exact he0 _ rfl
  · refine w_aload_n 1 dX8_lower_33 rfl rfl ?_
    refine w_aload_n 0 dX8_lower_34 rfl rfl ?_
    refine x_getR 8 0 (b := 1) dX8_lower_35 (fxX8_9 rfl) rfl (paths_s0 h_r0) (paths_n (j := 0) h_r0 (by decide) hnx) (paths_r0 h_r0) ?_
    refine w_iload_n 2 dX8_lower_38 rfl rfl ?_
    refine w_iload 5 dX8_lower_39 rfl ?_
    refine x_V_I M_X5_near [vi x2, vi x5] [.ref r1] hs rfl dX8_lower_41 (lkX8_50 _ rfl) (lt_of hnx (Nat.le_of_ble_eq_true rfl)) rfl rfl (Nat.le_of_ble_eq_true rfl) (Nat.le_of_ble_eq_true rfl) (Nat.le_of_ble_eq_true rfl) (Nat.le_of_ble_eq_true rfl) (c_Gr_near hnx x2 x5 s) (fun y3 hy3 hs => ?_)
    refine x_N_I M_X11_at [.ref r1, vi y3] [] hs rfl dX8_lower_44 (lkX8_31 _ rfl) (Nat.le_of_ble_eq_true rfl) (Nat.le_of_ble_eq_true rfl) (Nat.le_of_ble_eq_true rfl) (Nat.le_of_ble_eq_true rfl) (c_Hx_at hnx r1 (Or.inl h_r1) y3 s) (fun y4 hy4 hs => ?_)
    refine w_istore (lv' := [(6, vi y4), (0, .ref r0), (1, .ref r1), (2, vi x2), (3, vi x3), (4, vi x4), (5, vi x5)]) dX8_lower_47 (Nat.le_of_ble_eq_true rfl) rfl ?_
    refine w_iload 0 dX8_lower_49 rfl ?_
    refine x_iconst dX8_lower_51 ?_
    refine x_icmpeq hs dX8_lower_52 rfl (fun hs => ?_) (fun hs => ?_)
    · refine w_lv (lv' := [(0, .ref r0), (1, .ref r1), (2, vi x2), (3, vi x3), (4, vi x4), (5, vi x5)]) [1, 2, 3, 4, 5, 6] rfl ?_
      exact q_Pa_lower_b76 hnx r0 h_r0 r1 h_r1 x2 x3 x4 x5 s hs hb he0
    · refine w_iload 5 dX8_lower_55 rfl ?_
      refine x_iconst dX8_lower_57 ?_
      refine x_icmpeq hs dX8_lower_58 rfl (fun hs => ?_) (fun hs => ?_)
      · refine w_lv (lv' := [(0, .ref r0), (1, .ref r1), (2, vi x2), (3, vi x3), (5, vi x5), (6, vi y4)]) [1, 2, 3, 4, 6, 0] rfl ?_
        exact q_Pa_lower_b70 hnx r0 h_r0 r1 h_r1 x2 x3 x5 y4 s hs hb he0
      · refine w_iload 0 dX8_lower_61 rfl ?_
        refine w_iload_n 4 dX8_lower_63 rfl rfl ?_
        refine x_iadd dX8_lower_64 ?_
        refine w_iload 5 dX8_lower_65 rfl ?_
        refine x_icmpge hs dX8_lower_67 rfl (fun hs => ?_) (fun hs => ?_)
        · refine w_lv (lv' := [(0, .ref r0), (1, .ref r1), (2, vi x2), (3, vi x3), (4, vi x4), (5, vi x5)]) [1, 2, 3, 4, 5, 6] rfl ?_
          exact q_Pa_lower_b76 hnx r0 h_r0 r1 h_r1 x2 x3 x4 x5 s hs hb he0
        · refine w_lv (lv' := [(0, .ref r0), (1, .ref r1), (2, vi x2), (3, vi x3), (5, vi x5), (6, vi y4)]) [1, 2, 3, 4, 6, 0] rfl ?_
          exact q_Pa_lower_b70 hnx r0 h_r0 r1 h_r1 x2 x3 x5 y4 s hs hb he0
set_option maxRecDepth 100000 in
theorem q_Pa_lower_b97 {C : Cx} {nx : Nat} (hnx : 80 ≤ nx) (r1 : Nat) (h_r1 : isRowW nx r1) (x2 : Int) (x4 : Int) (t0 : Int) (s : Sg) {o : Int × Sg} (hs : Pa_lower_b97 r1 x2 x4 t0 s = some o) : ww C M_X8_lower 1 0 0 nx (QI nx o.2 o.1) (XF) nx 0 0 97 [(1, .ref r1), (2, vi x2), (4, vi x4)] [vi t0] (hp nx s) := by
  unfold Pa_lower_b97 at hs
  refine w_istore (lv' := [(5, vi t0), (1, .ref r1), (2, vi x2), (4, vi x4)]) dX8_lower_97 (Nat.le_of_ble_eq_true rfl) rfl ?_
  refine w_aload_n 1 dX8_lower_99 rfl rfl ?_
  refine w_iload_n 2 dX8_lower_100 rfl rfl ?_
  refine w_iload 3 dX8_lower_101 rfl ?_
  refine x_N_V M_X11_set [.ref r1, vi x2, vi x4] [] hs rfl dX8_lower_103 (lkX8_35 _ rfl) (Nat.le_of_ble_eq_true rfl) (Nat.le_of_ble_eq_true rfl) (Nat.le_of_ble_eq_true rfl) (Nat.le_of_ble_eq_true rfl) (c_Hx_set hnx r1 h_r1 x2 x4 s) (fun s9 hs9 hs => ?_)
  refine w_iload 0 dX8_lower_106 rfl ?_
  refine grd_e hs (fun hg10 hs => ?_)
  cases hs
  exact x_zreturn hg10 dX8_lower_108 rfl rfl (Nat.le_of_ble_eq_true rfl) (Nat.le_of_ble_eq_true rfl) ⟨rfl, rfl⟩
set_option maxRecDepth 100000 in
theorem q_Pa_lower_l26 {C : Cx} {nx : Nat} (hnx : 80 ≤ nx) (r0 : Nat) (h_r0 : isPaths r0) (r1 : Nat) (h_r1 : isRowW nx r1) (x2 : Int) (x3 : Int) (x4 : Int) (x5 : Int) (s : Sg) {o : Int × Sg} (hs : Pa_lower_l26 r0 r1 x2 x3 x4 x5 s = some o) : ww C M_X8_lower 1 0 0 nx (QI nx o.2 o.1) (XF) nx 0 0 26 [(0, .ref r0), (1, .ref r1), (2, vi x2), (3, vi x3), (4, vi x4), (5, vi x5)] [] (hp nx s) := by
  unfold Pa_lower_l26 at hs
  refine bnd_e hs (fun x4_6 hw hs => ?_)
  have hE : ww C M_X8_lower 1 0 0 nx (QI nx o.2 o.1) (XF) nx 0 0 82 [(1, .ref r1), (2, vi x2), (4, vi x4_6)] [] (hp nx s) := by
    refine w_iload 2 dX8_lower_82 rfl ?_
    refine w_aload_n 0 dX8_lower_84 rfl rfl ?_
    refine w_iload_n 1 dX8_lower_85 rfl rfl ?_
    refine x_N_I M_X11_at [.ref r1, vi x2] [vi x4_6] hs rfl dX8_lower_86 (lkX8_31 _ rfl) (Nat.le_of_ble_eq_true rfl) (Nat.le_of_ble_eq_true rfl) (Nat.le_of_ble_eq_true rfl) (Nat.le_of_ble_eq_true rfl) (c_Hx_at hnx r1 (Or.inl h_r1) x2 s) (fun y7 hy7 hs => ?_)
    refine x_icmpeq hs dX8_lower_89 rfl (fun hs => ?_) (fun hs => ?_)
    · refine x_iconst dX8_lower_96 ?_
      exact q_Pa_lower_b97 hnx r1 h_r1 x2 x4_6 0 s hs
    · refine x_iconst dX8_lower_92 ?_
      refine w_goto dX8_lower_93 rfl ?_
      exact q_Pa_lower_b97 hnx r1 h_r1 x2 x4_6 1 s hs
  refine whl_w (P := fun σ => ww C M_X8_lower 1 0 0 nx (QI nx o.2 o.1) (XF) nx 0 0 26 [(0, .ref r0), (1, .ref r1), (2, vi x2), (3, vi x3), (4, vi σ.1), (5, vi σ.2)] [] (hp nx s)) (E := fun ρ => ρ = x4_6) hw rfl ?_
  intro σ o' hs' hb' he'
  exact q_Pa_lower_t26 hnx r0 h_r0 r1 h_r1 x2 x3 σ.1 σ.2 s hs' hb' (fun ρ e => by cases he' _ e; exact hE)
set_option maxRecDepth 100000 in
theorem c_Pa_lower {C : Cx} {nx : Nat} (hnx : 80 ≤ nx) (r0 : Nat) (h_r0 : isPaths r0) (r1 : Nat) (h_r1 : isRowW nx r1) (x2 : Int) (s : Sg) : ∀ o, Pa_lower r0 r1 x2 s = some o → mm C M_X8_lower 1 0 0 nx nx [.ref r0, .ref r1, vi x2] (hp nx s) (QI nx o.2 o.1) (XF) := by
  intro o hs
  unfold Pa_lower at hs
  refine mm_of rfl rfl (Nat.le_of_ble_eq_true rfl) ?_
  show ww C M_X8_lower 1 0 0 nx (QI nx o.2 o.1) (XF) nx 0 0 0 [(0, .ref r0), (1, .ref r1), (2, vi x2)] [] (hp nx s)
  refine w_aload_n 0 dX8_lower_0 rfl rfl ?_
  refine x_getR 8 1 (b := (r0 + 1)) dX8_lower_1 (fxX8_15 rfl) rfl (paths_s0 h_r0) (paths_n (j := 0) h_r0 (by decide) hnx) (paths_r1 h_r0) ?_
  refine w_iload_n 2 dX8_lower_4 rfl rfl ?_
  refine x_N_I M_X11_at [.ref (r0 + 1), vi x2] [] hs rfl dX8_lower_5 (lkX8_31 _ rfl) (Nat.le_of_ble_eq_true rfl) (Nat.le_of_ble_eq_true rfl) (Nat.le_of_ble_eq_true rfl) (Nat.le_of_ble_eq_true rfl) (c_Hx_at hnx (r0 + 1) (Or.inl (rowW_of (paths_s1 h_r0) (paths_n (j := 1) h_r0 (by decide) hnx))) x2 s) (fun y1 hy1 hs => ?_)
  refine w_istore_n (lv' := [(3, vi y1), (0, .ref r0), (1, .ref r1), (2, vi x2)]) dX8_lower_8 rfl (Nat.le_of_ble_eq_true rfl) rfl ?_
  refine w_aload_n 2 dX8_lower_9 rfl rfl ?_
  refine w_iload_n 3 dX8_lower_10 rfl rfl ?_
  refine x_N_I M_X11_at [.ref r1, vi x2] [] hs rfl dX8_lower_11 (lkX8_31 _ rfl) (Nat.le_of_ble_eq_true rfl) (Nat.le_of_ble_eq_true rfl) (Nat.le_of_ble_eq_true rfl) (Nat.le_of_ble_eq_true rfl) (c_Hx_at hnx r1 (Or.inl h_r1) x2 s) (fun y2 hy2 hs => ?_)
  refine w_istore (lv' := [(4, vi y2), (3, vi y1), (0, .ref r0), (1, .ref r1), (2, vi x2)]) dX8_lower_14 (Nat.le_of_ble_eq_true rfl) rfl ?_
  refine w_iload_n 1 dX8_lower_16 rfl rfl ?_
  refine x_iconst dX8_lower_17 ?_
  refine x_icmpne hs dX8_lower_18 rfl (fun hs => ?_) (fun hs => ?_)
  · refine x_iconst dX8_lower_23 ?_
    refine w_istore (lv' := [(5, vi 0), (4, vi y2), (3, vi y1), (0, .ref r0), (1, .ref r1), (2, vi x2)]) dX8_lower_24 (Nat.le_of_ble_eq_true rfl) rfl ?_
    refine w_lv (lv' := [(0, .ref r0), (1, .ref r1), (2, vi x2), (3, vi y1), (4, vi y2), (5, vi 0)]) [3, 4, 5, 2, 1, 0] rfl ?_
    exact q_Pa_lower_l26 hnx r0 h_r0 r1 h_r1 x2 y1 y2 0 s hs
  · refine x_iconst dX8_lower_21 ?_
    cases hs
    exact x_zreturn (Or.inl rfl) dX8_lower_22 rfl rfl (Nat.le_of_ble_eq_true rfl) (Nat.le_of_ble_eq_true rfl) ⟨rfl, rfl⟩
set_option maxRecDepth 100000 in
theorem q_Pa_spread_b58 {C : Cx} {nx : Nat} (hnx : 80 ≤ nx) {Qr : Option Value → Hp → Prop} {Qx : String → Hp → Prop}  (r0 : Nat) (h_r0 : isPaths r0) (r1 : Nat) (h_r1 : isRowW nx r1) (x2 : Int) (x3 : Int) (x4 : Int) (t1 : Int) (t2 : Int) (s : Sg) {o : ((Int × Sg) ⊕ (Sg))} (hs : Pa_spread_b58 r0 r1 x2 x3 x4 t1 t2 s = some o) (hb : ∀ σ : Int × Sg, o = .inl σ → ww C M_X8_spread 2 0 0 nx (Qr) (Qx) nx 0 0 3 [(0, .ref r0), (1, .ref r1), (2, vi x2), (3, vi x3), (4, vi σ.1)] [] (hp nx σ.2)) (he0 : ∀ ρ : Sg, o = .inr ρ → ww C M_X8_spread 2 0 0 nx (Qr) (Qx) nx 0 0 67 [(0, .ref r0), (1, .ref r1)] [] (hp nx ρ)) : ww C M_X8_spread 2 0 0 nx (Qr) (Qx) nx 0 0 58 [(0, .ref r0), (1, .ref r1), (2, vi x2), (3, vi x3), (4, vi x4)] [vi t2, vi t1, .ref r1] (hp nx s) := by
  unfold Pa_spread_b58 at hs
  refine x_N_V M_X11_set [.ref r1, vi t1, vi t2] [] hs rfl dX8_spread_58 (lkX8_35 _ rfl) (Nat.le_of_ble_eq_true rfl) (Nat.le_of_ble_eq_true rfl) (Nat.le_of_ble_eq_true rfl) (Nat.le_of_ble_eq_true rfl) (c_Hx_set hnx r1 h_r1 t1 t2 s) (fun s3 hs3 hs => ?_)
  refine x_iinc (lv' := [(4, vi (x4 + 1)), (0, .ref r0), (1, .ref r1), (2, vi x2), (3, vi x3)]) 4 dX8_spread_61 rfl (Nat.le_of_ble_eq_true rfl) rfl ?_
  refine w_goto dX8_spread_64 rfl ?_
  refine w_lv (lv' := [(0, .ref r0), (1, .ref r1), (2, vi x2), (3, vi x3), (4, vi (x4 + 1))]) [1, 2, 3, 4, 0] rfl ?_
  cases hs
  exact hb _ rfl
set_option maxRecDepth 100000 in
theorem q_Pa_spread_b35 {C : Cx} {nx : Nat} (hnx : 80 ≤ nx) {Qr : Option Value → Hp → Prop} {Qx : String → Hp → Prop}  (r0 : Nat) (h_r0 : isPaths r0) (r1 : Nat) (h_r1 : isRowW nx r1) (x2 : Int) (x3 : Int) (x4 : Int) (t0 : Int) (s : Sg) {o : ((Int × Sg) ⊕ (Sg))} (hs : Pa_spread_b35 r0 r1 x2 x3 x4 t0 s = some o) (hb : ∀ σ : Int × Sg, o = .inl σ → ww C M_X8_spread 2 0 0 nx (Qr) (Qx) nx 0 0 3 [(0, .ref r0), (1, .ref r1), (2, vi x2), (3, vi x3), (4, vi σ.1)] [] (hp nx σ.2)) (he0 : ∀ ρ : Sg, o = .inr ρ → ww C M_X8_spread 2 0 0 nx (Qr) (Qx) nx 0 0 67 [(0, .ref r0), (1, .ref r1)] [] (hp nx ρ)) : ww C M_X8_spread 2 0 0 nx (Qr) (Qx) nx 0 0 35 [(0, .ref r0), (1, .ref r1), (2, vi x2), (3, vi x3), (4, vi x4)] [vi t0] (hp nx s) := by
  unfold Pa_spread_b35 at hs
  refine w_istore (lv' := [(5, vi t0), (0, .ref r0), (1, .ref r1), (2, vi x2), (3, vi x3), (4, vi x4)]) dX8_spread_35 (Nat.le_of_ble_eq_true rfl) rfl ?_
  refine w_aload_n 2 dX8_spread_37 rfl rfl ?_
  refine w_iload 5 dX8_spread_38 rfl ?_
  refine w_iload 0 dX8_spread_40 rfl ?_
  refine x_ifeq hs dX8_spread_42 rfl (fun hs => ?_) (fun hs => ?_)
  · refine x_iconst dX8_spread_57 ?_
    refine w_lv (lv' := [(0, .ref r0), (1, .ref r1), (2, vi x2), (3, vi x3), (4, vi x4)]) [1, 2, 3, 4, 5] rfl ?_
    exact q_Pa_spread_b58 hnx r0 h_r0 r1 h_r1 x2 x3 x4 x4 (-1) s hs hb he0
  · refine w_aload_n 1 dX8_spread_45 rfl rfl ?_
    refine x_getR 8 1 (b := (r0 + 1)) dX8_spread_46 (fxX8_15 rfl) rfl (paths_s0 h_r0) (paths_n (j := 0) h_r0 (by decide) hnx) (paths_r1 h_r0) ?_
    refine w_iload 5 dX8_spread_49 rfl ?_
    refine x_N_I M_X11_at [.ref (r0 + 1), vi x4] [vi x4, .ref r1] hs rfl dX8_spread_51 (lkX8_31 _ rfl) (Nat.le_of_ble_eq_true rfl) (Nat.le_of_ble_eq_true rfl) (Nat.le_of_ble_eq_true rfl) (Nat.le_of_ble_eq_true rfl) (c_Hx_at hnx (r0 + 1) (Or.inl (rowW_of (paths_s1 h_r0) (paths_n (j := 1) h_r0 (by decide) hnx))) x4 s) (fun y4 hy4 hs => ?_)
    refine w_goto dX8_spread_54 rfl ?_
    refine w_lv (lv' := [(0, .ref r0), (1, .ref r1), (2, vi x2), (3, vi x3), (4, vi x4)]) [1, 2, 3, 4, 5] rfl ?_
    exact q_Pa_spread_b58 hnx r0 h_r0 r1 h_r1 x2 x3 x4 x4 y4 s hs hb he0
set_option maxRecDepth 100000 in
theorem q_Pa_spread_t3 {C : Cx} {nx : Nat} (hnx : 80 ≤ nx) {Qr : Option Value → Hp → Prop} {Qx : String → Hp → Prop}  (r0 : Nat) (h_r0 : isPaths r0) (r1 : Nat) (h_r1 : isRowW nx r1) (x2 : Int) (x3 : Int) (x4 : Int) (s : Sg) {o : ((Int × Sg) ⊕ (Sg))} (hs : Pa_spread_t3 r0 r1 x2 x3 x4 s = some o) (hb : ∀ σ : Int × Sg, o = .inl σ → ww C M_X8_spread 2 0 0 nx (Qr) (Qx) nx 0 0 3 [(0, .ref r0), (1, .ref r1), (2, vi x2), (3, vi x3), (4, vi σ.1)] [] (hp nx σ.2)) (he0 : ∀ ρ : Sg, o = .inr ρ → ww C M_X8_spread 2 0 0 nx (Qr) (Qx) nx 0 0 67 [(0, .ref r0), (1, .ref r1)] [] (hp nx ρ)) : ww C M_X8_spread 2 0 0 nx (Qr) (Qx) nx 0 0 3 [(0, .ref r0), (1, .ref r1), (2, vi x2), (3, vi x3), (4, vi x4)] [] (hp nx s) := by
  unfold Pa_spread_t3 at hs
  refine w_iload 4 dX8_spread_3 rfl ?_
  refine w_aload_n 0 dX8_spread_5 rfl rfl ?_
  refine x_getR 8 0 (b := 1) dX8_spread_6 (fxX8_9 rfl) rfl (paths_s0 h_r0) (paths_n (j := 0) h_r0 (by decide) hnx) (paths_r0 h_r0) ?_
  refine x_getI 5 4 dX8_spread_9 (fxX8_25 rfl) rfl rfl (lt_of hnx (Nat.le_of_ble_eq_true rfl)) ?_
  refine x_icmpge hs dX8_spread_12 rfl (fun hs => ?_) (fun hs => ?_)
  · refine w_lv (lv' := [(0, .ref r0), (1, .ref r1)]) [0, 1] rfl ?_
    cases hs
    exact he0 _ rfl
  · refine w_aload_n 0 dX8_spread_15 rfl rfl ?_
    refine x_getR 8 0 (b := 1) dX8_spread_16 (fxX8_9 rfl) rfl (paths_s0 h_r0) (paths_n (j := 0) h_r0 (by decide) hnx) (paths_r0 h_r0) ?_
    refine w_iload 4 dX8_spread_19 rfl ?_
    refine w_iload_n 2 dX8_spread_21 rfl rfl ?_
    refine x_V_I M_X5_edges [vi x4, vi x2] [] hs rfl dX8_spread_22 (lkX8_42 _ rfl) (lt_of hnx (Nat.le_of_ble_eq_true rfl)) rfl rfl (Nat.le_of_ble_eq_true rfl) (Nat.le_of_ble_eq_true rfl) (Nat.le_of_ble_eq_true rfl) (Nat.le_of_ble_eq_true rfl) (c_Gr_edges hnx x4 x2 s) (fun y1 hy1 hs => ?_)
    refine w_iload_n 3 dX8_spread_25 rfl rfl ?_
    refine x_iand dX8_spread_26 ?_
    refine x_ifeq hs dX8_spread_27 rfl (fun hs => ?_) (fun hs => ?_)
    · refine x_iconst dX8_spread_34 ?_
      exact q_Pa_spread_b35 hnx r0 h_r0 r1 h_r1 x2 x3 x4 0 s hs hb he0
    · refine x_iconst dX8_spread_30 ?_
      refine w_goto dX8_spread_31 rfl ?_
      exact q_Pa_spread_b35 hnx r0 h_r0 r1 h_r1 x2 x3 x4 1 s hs hb he0
set_option maxRecDepth 100000 in
theorem q_Pa_spread_t91 {C : Cx} {nx : Nat} (hnx : 80 ≤ nx) {Qr : Option Value → Hp → Prop} {Qx : String → Hp → Prop}  (r0 : Nat) (h_r0 : isPaths r0) (r1 : Nat) (h_r1 : isRowW nx r1) (x4 : Int) (x5 : Int) (x6 : Int) (s : Sg) {o : ((Int × Int × Sg) ⊕ (Int × Sg))} (hs : Pa_spread_t91 r0 r1 x4 x5 x6 s = some o) (hb : ∀ σ : Int × Int × Sg, o = .inl σ → ww C M_X8_spread 2 0 0 nx (Qr) (Qx) nx 0 0 91 [(0, .ref r0), (1, .ref r1), (4, vi σ.1), (5, vi x5), (6, vi σ.2.1)] [] (hp nx σ.2.2)) (he0 : ∀ ρ : Int × Sg, o = .inr ρ → ww C M_X8_spread 2 0 0 nx (Qr) (Qx) nx 0 0 121 [(0, .ref r0), (1, .ref r1), (4, vi ρ.1), (5, vi x5)] [] (hp nx ρ.2)) : ww C M_X8_spread 2 0 0 nx (Qr) (Qx) nx 0 0 91 [(0, .ref r0), (1, .ref r1), (4, vi x4), (5, vi x5), (6, vi x6)] [] (hp nx s) := by
  unfold Pa_spread_t91 at hs
  refine w_iload 4 dX8_spread_91 rfl ?_
  refine w_aload_n 0 dX8_spread_93 rfl rfl ?_
  refine x_getR 8 0 (b := 1) dX8_spread_94 (fxX8_9 rfl) rfl (paths_s0 h_r0) (paths_n (j := 0) h_r0 (by decide) hnx) (paths_r0 h_r0) ?_
  refine x_getI 5 4 dX8_spread_97 (fxX8_25 rfl) rfl rfl (lt_of hnx (Nat.le_of_ble_eq_true rfl)) ?_
  refine x_icmpge hs dX8_spread_100 rfl (fun hs => ?_) (fun hs => ?_)
  · refine w_lv (lv' := [(0, .ref r0), (1, .ref r1), (4, vi x4), (5, vi x5)]) [0, 1, 2, 3] rfl ?_
    cases hs
    exact he0 _ rfl
  · refine w_iload 2 dX8_spread_103 rfl ?_
    refine w_aload_n 0 dX8_spread_105 rfl rfl ?_
    refine w_aload_n 1 dX8_spread_106 rfl rfl ?_
    refine w_iload 4 dX8_spread_107 rfl ?_
    refine x_V_B M_X8_lower [.ref r1, vi x6] [vi x4] hs rfl dX8_spread_109 (lkX8_46 _ rfl) (paths_n (j := 0) h_r0 (by decide) hnx) (paths_s0 h_r0) rfl (Nat.le_of_ble_eq_true rfl) (Nat.le_of_ble_eq_true rfl) (Nat.le_of_ble_eq_true rfl) (Nat.le_of_ble_eq_true rfl) (c_Pa_lower hnx r0 h_r0 r1 h_r1 x6 s) (fun y6 s7 hy6 hs => ?_)
    refine x_ior dX8_spread_112 ?_
    refine x_istore (fun x4_8 => [(4, vi x4_8), (0, .ref r0), (1, .ref r1), (5, vi x5), (6, vi x6)]) hs dX8_spread_113 (Nat.le_of_ble_eq_true rfl) (fun _ => rfl) (fun x4_8 hs => ?_)
    refine x_iinc (lv' := [(6, vi (x6 + 1)), (4, vi x4_8), (0, .ref r0), (1, .ref r1), (5, vi x5)]) 4 dX8_spread_115 rfl (Nat.le_of_ble_eq_true rfl) rfl ?_
    refine w_goto dX8_spread_118 rfl ?_
    refine w_lv (lv' := [(0, .ref r0), (1, .ref r1), (4, vi x4_8), (5, vi x5), (6, vi (x6 + 1))]) [2, 3, 1, 4, 0] rfl ?_
    cases hs
    exact hb _ rfl
set_option maxRecDepth 100000 in
theorem q_Pa_spread_l91 {C : Cx} {nx : Nat} (hnx : 80 ≤ nx) {Qr : Option Value → Hp → Prop} {Qx : String → Hp → Prop}  (r0 : Nat) (h_r0 : isPaths r0) (r1 : Nat) (h_r1 : isRowW nx r1) (x4 : Int) (x5 : Int) (x6 : Int) (s : Sg) {o : ((Int × Int × Sg) ⊕ (Sg))} (hs : Pa_spread_l91 r0 r1 x4 x5 x6 s = some o) (hb : ∀ σ : Int × Int × Sg, o = .inl σ → ww C M_X8_spread 2 0 0 nx (Qr) (Qx) nx 0 0 73 [(0, .ref r0), (1, .ref r1), (4, vi σ.1), (5, vi σ.2.1)] [] (hp nx σ.2.2)) (he0 : ∀ ρ : Sg, o = .inr ρ → ww C M_X8_spread 2 0 0 nx (Qr) (Qx) nx 0 0 127 [] [] (hp nx ρ)) : ww C M_X8_spread 2 0 0 nx (Qr) (Qx) nx 0 0 91 [(0, .ref r0), (1, .ref r1), (4, vi x4), (5, vi x5), (6, vi x6)] [] (hp nx s) := by
  unfold Pa_spread_l91 at hs
  refine bnd_e hs (fun ρ hw hs => ?_)
  obtain ⟨x4_9, s_10⟩ := ρ
  have hE : ww C M_X8_spread 2 0 0 nx (Qr) (Qx) nx 0 0 121 [(0, .ref r0), (1, .ref r1), (4, vi x4_9), (5, vi x5)] [] (hp nx s_10) := by
    refine x_iinc (lv' := [(5, vi (x5 + 1)), (0, .ref r0), (1, .ref r1), (4, vi x4_9)]) 3 dX8_spread_121 rfl (Nat.le_of_ble_eq_true rfl) rfl ?_
    refine w_goto dX8_spread_124 rfl ?_
    refine w_lv (lv' := [(0, .ref r0), (1, .ref r1), (4, vi x4_9), (5, vi (x5 + 1))]) [1, 2, 3, 0] rfl ?_
    cases hs
    exact hb _ rfl
  refine whl_w (P := fun σ => ww C M_X8_spread 2 0 0 nx (Qr) (Qx) nx 0 0 91 [(0, .ref r0), (1, .ref r1), (4, vi σ.1), (5, vi x5), (6, vi σ.2.1)] [] (hp nx σ.2.2)) (E := fun ρ => ρ = (x4_9, s_10)) hw rfl ?_
  intro σ o' hs' hb' he'
  exact q_Pa_spread_t91 hnx r0 h_r0 r1 h_r1 σ.1 x5 σ.2.1 σ.2.2 hs' hb' (fun ρ e => by cases he' _ e; exact hE)
set_option maxRecDepth 100000 in
theorem q_Pa_spread_t73 {C : Cx} {nx : Nat} (hnx : 80 ≤ nx) {Qr : Option Value → Hp → Prop} {Qx : String → Hp → Prop}  (r0 : Nat) (h_r0 : isPaths r0) (r1 : Nat) (h_r1 : isRowW nx r1) (x4 : Int) (x5 : Int) (s : Sg) {o : ((Int × Int × Sg) ⊕ (Sg))} (hs : Pa_spread_t73 r0 r1 x4 x5 s = some o) (hb : ∀ σ : Int × Int × Sg, o = .inl σ → ww C M_X8_spread 2 0 0 nx (Qr) (Qx) nx 0 0 73 [(0, .ref r0), (1, .ref r1), (4, vi σ.1), (5, vi σ.2.1)] [] (hp nx σ.2.2)) (he0 : ∀ ρ : Sg, o = .inr ρ → ww C M_X8_spread 2 0 0 nx (Qr) (Qx) nx 0 0 127 [] [] (hp nx ρ)) : ww C M_X8_spread 2 0 0 nx (Qr) (Qx) nx 0 0 73 [(0, .ref r0), (1, .ref r1), (4, vi x4), (5, vi x5)] [] (hp nx s) := by
  unfold Pa_spread_t73 at hs
  refine w_iload 3 dX8_spread_73 rfl ?_
  refine x_bipush dX8_spread_75 (by decide) ?_
  refine x_icmpge hs dX8_spread_77 rfl (fun hs => ?_) (fun hs => ?_)
  · refine w_lv (lv' := []) [] rfl ?_
    cases hs
    exact he0 _ rfl
  · refine w_iload 2 dX8_spread_80 rfl ?_
    refine x_ifeq hs dX8_spread_82 rfl (fun hs => ?_) (fun hs => ?_)
    · refine w_lv (lv' := []) [] rfl ?_
      cases hs
      exact he0 _ rfl
    · refine x_iconst dX8_spread_85 ?_
      refine w_istore (lv' := [(4, vi 0), (0, .ref r0), (1, .ref r1), (5, vi x5)]) dX8_spread_86 (Nat.le_of_ble_eq_true rfl) rfl ?_
      refine x_iconst dX8_spread_88 ?_
      refine w_istore (lv' := [(6, vi 0), (4, vi 0), (0, .ref r0), (1, .ref r1), (5, vi x5)]) dX8_spread_89 (Nat.le_of_ble_eq_true rfl) rfl ?_
      refine w_lv (lv' := [(0, .ref r0), (1, .ref r1), (4, vi 0), (5, vi x5), (6, vi 0)]) [2, 3, 1, 4, 0] rfl ?_
      exact q_Pa_spread_l91 hnx r0 h_r0 r1 h_r1 0 x5 0 s hs hb he0
set_option maxRecDepth 100000 in
theorem q_Pa_spread_l73 {C : Cx} {nx : Nat} (hnx : 80 ≤ nx) (r0 : Nat) (h_r0 : isPaths r0) (r1 : Nat) (h_r1 : isRowW nx r1) (x4 : Int) (x5 : Int) (s : Sg) {o : Sg} (hs : Pa_spread_l73 r0 r1 x4 x5 s = some o) : ww C M_X8_spread 2 0 0 nx (QV nx o) (XF) nx 0 0 73 [(0, .ref r0), (1, .ref r1), (4, vi x4), (5, vi x5)] [] (hp nx s) := by
  unfold Pa_spread_l73 at hs
  refine bnd_e hs (fun s_11 hw hs => ?_)
  have hE : ww C M_X8_spread 2 0 0 nx (QV nx o) (XF) nx 0 0 127 [] [] (hp nx s_11) := by
    cases hs
    exact w_return rfl dX8_spread_127 rfl (Nat.le_of_ble_eq_true rfl) (Nat.le_of_ble_eq_true rfl) ⟨rfl, rfl⟩
  refine whl_w (P := fun σ => ww C M_X8_spread 2 0 0 nx (QV nx o) (XF) nx 0 0 73 [(0, .ref r0), (1, .ref r1), (4, vi σ.1), (5, vi σ.2.1)] [] (hp nx σ.2.2)) (E := fun ρ => ρ = s_11) hw rfl ?_
  intro σ o' hs' hb' he'
  exact q_Pa_spread_t73 hnx r0 h_r0 r1 h_r1 σ.1 σ.2.1 σ.2.2 hs' hb' (fun ρ e => by cases he' _ e; exact hE)
set_option maxRecDepth 100000 in
theorem q_Pa_spread_l3 {C : Cx} {nx : Nat} (hnx : 80 ≤ nx) (r0 : Nat) (h_r0 : isPaths r0) (r1 : Nat) (h_r1 : isRowW nx r1) (x2 : Int) (x3 : Int) (x4 : Int) (s : Sg) {o : Sg} (hs : Pa_spread_l3 r0 r1 x2 x3 x4 s = some o) : ww C M_X8_spread 2 0 0 nx (QV nx o) (XF) nx 0 0 3 [(0, .ref r0), (1, .ref r1), (2, vi x2), (3, vi x3), (4, vi x4)] [] (hp nx s) := by
  unfold Pa_spread_l3 at hs
  refine bnd_e hs (fun s_5 hw hs => ?_)
  have hE : ww C M_X8_spread 2 0 0 nx (QV nx o) (XF) nx 0 0 67 [(0, .ref r0), (1, .ref r1)] [] (hp nx s_5) := by
    refine x_iconst dX8_spread_67 ?_
    refine w_istore (lv' := [(4, vi 1), (0, .ref r0), (1, .ref r1)]) dX8_spread_68 (Nat.le_of_ble_eq_true rfl) rfl ?_
    refine x_iconst dX8_spread_70 ?_
    refine w_istore (lv' := [(5, vi 0), (4, vi 1), (0, .ref r0), (1, .ref r1)]) dX8_spread_71 (Nat.le_of_ble_eq_true rfl) rfl ?_
    refine w_lv (lv' := [(0, .ref r0), (1, .ref r1), (4, vi 1), (5, vi 0)]) [2, 3, 1, 0] rfl ?_
    exact q_Pa_spread_l73 hnx r0 h_r0 r1 h_r1 1 0 s_5 hs
  refine whl_w (P := fun σ => ww C M_X8_spread 2 0 0 nx (QV nx o) (XF) nx 0 0 3 [(0, .ref r0), (1, .ref r1), (2, vi x2), (3, vi x3), (4, vi σ.1)] [] (hp nx σ.2)) (E := fun ρ => ρ = s_5) hw rfl ?_
  intro σ o' hs' hb' he'
  exact q_Pa_spread_t3 hnx r0 h_r0 r1 h_r1 x2 x3 σ.1 σ.2 hs' hb' (fun ρ e => by cases he' _ e; exact hE)
set_option maxRecDepth 100000 in
theorem c_Pa_spread {C : Cx} {nx : Nat} (hnx : 80 ≤ nx) (r0 : Nat) (h_r0 : isPaths r0) (r1 : Nat) (h_r1 : isRowW nx r1) (x2 : Int) (x3 : Int) (s : Sg) : ∀ o, Pa_spread r0 r1 x2 x3 s = some o → mm C M_X8_spread 2 0 0 nx nx [.ref r0, .ref r1, vi x2, vi x3] (hp nx s) (QV nx o) (XF) := by
  intro o hs
  unfold Pa_spread at hs
  refine mm_of rfl rfl (Nat.le_of_ble_eq_true rfl) ?_
  show ww C M_X8_spread 2 0 0 nx (QV nx o) (XF) nx 0 0 0 [(0, .ref r0), (1, .ref r1), (2, vi x2), (3, vi x3)] [] (hp nx s)
  refine x_iconst dX8_spread_0 ?_
  refine w_istore (lv' := [(4, vi 0), (0, .ref r0), (1, .ref r1), (2, vi x2), (3, vi x3)]) dX8_spread_1 (Nat.le_of_ble_eq_true rfl) rfl ?_
  refine w_lv (lv' := [(0, .ref r0), (1, .ref r1), (2, vi x2), (3, vi x3), (4, vi 0)]) [1, 2, 3, 4, 0] rfl ?_
  exact q_Pa_spread_l3 hnx r0 h_r0 r1 h_r1 x2 x3 0 s hs
set_option maxRecDepth 100000 in
theorem q_Pa_find_b46 {C : Cx} {nx : Nat} (hnx : 80 ≤ nx) {Qr : Option Value → Hp → Prop} {Qx : String → Hp → Prop}  (r0 : Nat) (h_r0 : isPaths r0) (r1 : Nat) (h_r1 : isRow nx r1) (x2 : Int) (x3 : Int) (t1 : Int) (t2 : Int) (s : Sg) {o : ((Int × Sg) ⊕ (Sg))} (hs : Pa_find_b46 r0 r1 x2 x3 t1 t2 s = some o) (hb : ∀ σ : Int × Sg, o = .inl σ → ww C M_X8_find 3 0 0 nx (Qr) (Qx) nx 0 0 2 [(0, .ref r0), (1, .ref r1), (2, vi x2), (3, vi σ.1)] [] (hp nx σ.2)) (he0 : ∀ ρ : Sg, o = .inr ρ → ww C M_X8_find 3 0 0 nx (Qr) (Qx) nx 0 0 55 [(0, .ref r0), (2, vi x2)] [] (hp nx ρ)) : ww C M_X8_find 3 0 0 nx (Qr) (Qx) nx 0 0 46 [(0, .ref r0), (1, .ref r1), (2, vi x2), (3, vi x3)] [vi t2, vi t1, .ref (r0 + 1)] (hp nx s) := by
  unfold Pa_find_b46 at hs
  refine x_N_V M_X11_set [.ref (r0 + 1), vi t1, vi t2] [] hs rfl dX8_find_46 (lkX8_35 _ rfl) (Nat.le_of_ble_eq_true rfl) (Nat.le_of_ble_eq_true rfl) (Nat.le_of_ble_eq_true rfl) (Nat.le_of_ble_eq_true rfl) (c_Hx_set hnx (r0 + 1) (rowW_of (paths_s1 h_r0) (paths_n (j := 1) h_r0 (by decide) hnx)) t1 t2 s) (fun s3 hs3 hs => ?_)
  refine x_iinc (lv' := [(3, vi (x3 + 1)), (0, .ref r0), (1, .ref r1), (2, vi x2)]) 3 dX8_find_49 rfl (Nat.le_of_ble_eq_true rfl) rfl ?_
  refine w_goto dX8_find_52 rfl ?_
  refine w_lv (lv' := [(0, .ref r0), (1, .ref r1), (2, vi x2), (3, vi (x3 + 1))]) [1, 2, 3, 0] rfl ?_
  cases hs
  exact hb _ rfl
set_option maxRecDepth 100000 in
theorem q_Pa_find_t2 {C : Cx} {nx : Nat} (hnx : 80 ≤ nx) {Qr : Option Value → Hp → Prop} {Qx : String → Hp → Prop}  (r0 : Nat) (h_r0 : isPaths r0) (r1 : Nat) (h_r1 : isRow nx r1) (x2 : Int) (x3 : Int) (s : Sg) {o : ((Int × Sg) ⊕ (Sg))} (hs : Pa_find_t2 r0 r1 x2 x3 s = some o) (hb : ∀ σ : Int × Sg, o = .inl σ → ww C M_X8_find 3 0 0 nx (Qr) (Qx) nx 0 0 2 [(0, .ref r0), (1, .ref r1), (2, vi x2), (3, vi σ.1)] [] (hp nx σ.2)) (he0 : ∀ ρ : Sg, o = .inr ρ → ww C M_X8_find 3 0 0 nx (Qr) (Qx) nx 0 0 55 [(0, .ref r0), (2, vi x2)] [] (hp nx ρ)) : ww C M_X8_find 3 0 0 nx (Qr) (Qx) nx 0 0 2 [(0, .ref r0), (1, .ref r1), (2, vi x2), (3, vi x3)] [] (hp nx s) := by
  unfold Pa_find_t2 at hs
  refine w_iload_n 3 dX8_find_2 rfl rfl ?_
  refine w_aload_n 0 dX8_find_3 rfl rfl ?_
  refine x_getR 8 0 (b := 1) dX8_find_4 (fxX8_9 rfl) rfl (paths_s0 h_r0) (paths_n (j := 0) h_r0 (by decide) hnx) (paths_r0 h_r0) ?_
  refine x_getI 5 4 dX8_find_7 (fxX8_25 rfl) rfl rfl (lt_of hnx (Nat.le_of_ble_eq_true rfl)) ?_
  refine x_icmpge hs dX8_find_10 rfl (fun hs => ?_) (fun hs => ?_)
  · refine w_lv (lv' := [(0, .ref r0), (2, vi x2)]) [0, 2] rfl ?_
    cases hs
    exact he0 _ rfl
  · refine w_aload_n 1 dX8_find_13 rfl rfl ?_
    refine w_iload_n 3 dX8_find_14 rfl rfl ?_
    refine x_N_I M_X11_at [.ref r1, vi x3] [] hs rfl dX8_find_15 (lkX8_31 _ rfl) (Nat.le_of_ble_eq_true rfl) (Nat.le_of_ble_eq_true rfl) (Nat.le_of_ble_eq_true rfl) (Nat.le_of_ble_eq_true rfl) (c_Hx_at hnx r1 h_r1 x3 s) (fun y1 hy1 hs => ?_)
    refine w_istore (lv' := [(4, vi y1), (0, .ref r0), (1, .ref r1), (2, vi x2), (3, vi x3)]) dX8_find_18 (Nat.le_of_ble_eq_true rfl) rfl ?_
    refine w_aload_n 1 dX8_find_20 rfl rfl ?_
    refine x_getR 8 1 (b := (r0 + 1)) dX8_find_21 (fxX8_15 rfl) rfl (paths_s0 h_r0) (paths_n (j := 0) h_r0 (by decide) hnx) (paths_r1 h_r0) ?_
    refine w_iload_n 4 dX8_find_24 rfl rfl ?_
    refine w_iload 0 dX8_find_25 rfl ?_
    refine x_iconst dX8_find_27 ?_
    refine x_icmpne hs dX8_find_28 rfl (fun hs => ?_) (fun hs => ?_)
    · refine w_iload 0 dX8_find_35 rfl ?_
      refine w_iload_n 3 dX8_find_37 rfl rfl ?_
      refine x_icmpne hs dX8_find_38 rfl (fun hs => ?_) (fun hs => ?_)
      · refine x_iconst dX8_find_45 ?_
        refine w_lv (lv' := [(0, .ref r0), (1, .ref r1), (2, vi x2), (3, vi x3)]) [1, 2, 3, 4] rfl ?_
        exact q_Pa_find_b46 hnx r0 h_r0 r1 h_r1 x2 x3 x3 (-1) s hs hb he0
      · refine x_iconst dX8_find_41 ?_
        refine w_goto dX8_find_42 rfl ?_
        refine w_lv (lv' := [(0, .ref r0), (1, .ref r1), (2, vi x2), (3, vi x3)]) [1, 2, 3, 4] rfl ?_
        exact q_Pa_find_b46 hnx r0 h_r0 r1 h_r1 x2 x3 x3 0 s hs hb he0
    · refine x_iconst dX8_find_31 ?_
      refine w_goto dX8_find_32 rfl ?_
      refine w_lv (lv' := [(0, .ref r0), (1, .ref r1), (2, vi x2), (3, vi x3)]) [1, 2, 3, 4] rfl ?_
      exact q_Pa_find_b46 hnx r0 h_r0 r1 h_r1 x2 x3 x3 1 s hs hb he0
set_option maxRecDepth 100000 in
theorem q_Pa_find_l2 {C : Cx} {nx : Nat} (hnx : 80 ≤ nx) (r0 : Nat) (h_r0 : isPaths r0) (r1 : Nat) (h_r1 : isRow nx r1) (x2 : Int) (x3 : Int) (s : Sg) {o : Sg} (hs : Pa_find_l2 r0 r1 x2 x3 s = some o) : ww C M_X8_find 3 0 0 nx (QV nx o) (XF) nx 0 0 2 [(0, .ref r0), (1, .ref r1), (2, vi x2), (3, vi x3)] [] (hp nx s) := by
  unfold Pa_find_l2 at hs
  refine bnd_e hs (fun s_4 hw hs => ?_)
  have hE : ww C M_X8_find 3 0 0 nx (QV nx o) (XF) nx 0 0 55 [(0, .ref r0), (2, vi x2)] [] (hp nx s_4) := by
    refine w_aload_n 0 dX8_find_55 rfl rfl ?_
    refine w_aload_n 0 dX8_find_56 rfl rfl ?_
    refine x_getR 8 2 (b := (r0 + 2)) dX8_find_57 (fxX8_19 rfl) rfl (paths_s0 h_r0) (paths_n (j := 0) h_r0 (by decide) hnx) (paths_r2 h_r0) ?_
    refine w_iload_n 1 dX8_find_60 rfl rfl ?_
    refine x_iconst dX8_find_61 ?_
    refine x_V_V M_X8_spread [.ref (r0 + 2), vi x2, vi 1] [] hs rfl dX8_find_62 (lkX8_39 _ rfl) (paths_n (j := 0) h_r0 (by decide) hnx) (paths_s0 h_r0) rfl (Nat.le_of_ble_eq_true rfl) (Nat.le_of_ble_eq_true rfl) (Nat.le_of_ble_eq_true rfl) (Nat.le_of_ble_eq_true rfl) (c_Pa_spread hnx r0 h_r0 (r0 + 2) (rowW_of (paths_s2 h_r0) (paths_n (j := 2) h_r0 (by decide) hnx)) x2 1 s_4) (fun s6 hs6 hs => ?_)
    refine w_aload_n 0 dX8_find_65 rfl rfl ?_
    refine w_aload_n 0 dX8_find_66 rfl rfl ?_
    refine x_getR 8 3 (b := (r0 + 3)) dX8_find_67 (fxX8_22 rfl) rfl (paths_s0 h_r0) (paths_n (j := 0) h_r0 (by decide) hnx) (paths_r3 h_r0) ?_
    refine w_iload_n 1 dX8_find_70 rfl rfl ?_
    refine x_iconst dX8_find_71 ?_
    refine x_V_V M_X8_spread [.ref (r0 + 3), vi x2, vi 2] [] hs rfl dX8_find_72 (lkX8_39 _ rfl) (paths_n (j := 0) h_r0 (by decide) hnx) (paths_s0 h_r0) rfl (Nat.le_of_ble_eq_true rfl) (Nat.le_of_ble_eq_true rfl) (Nat.le_of_ble_eq_true rfl) (Nat.le_of_ble_eq_true rfl) (c_Pa_spread hnx r0 h_r0 (r0 + 3) (rowW_of (paths_s3 h_r0) (paths_n (j := 3) h_r0 (by decide) hnx)) x2 2 s6) (fun s8 hs8 hs => ?_)
    cases hs
    exact w_return rfl dX8_find_75 rfl (Nat.le_of_ble_eq_true rfl) (Nat.le_of_ble_eq_true rfl) ⟨rfl, rfl⟩
  refine whl_w (P := fun σ => ww C M_X8_find 3 0 0 nx (QV nx o) (XF) nx 0 0 2 [(0, .ref r0), (1, .ref r1), (2, vi x2), (3, vi σ.1)] [] (hp nx σ.2)) (E := fun ρ => ρ = s_4) hw rfl ?_
  intro σ o' hs' hb' he'
  exact q_Pa_find_t2 hnx r0 h_r0 r1 h_r1 x2 σ.1 σ.2 hs' hb' (fun ρ e => by cases he' _ e; exact hE)
set_option maxRecDepth 100000 in
theorem c_Pa_find {C : Cx} {nx : Nat} (hnx : 80 ≤ nx) (r0 : Nat) (h_r0 : isPaths r0) (r1 : Nat) (h_r1 : isRow nx r1) (x2 : Int) (s : Sg) : ∀ o, Pa_find r0 r1 x2 s = some o → mm C M_X8_find 3 0 0 nx nx [.ref r0, .ref r1, vi x2] (hp nx s) (QV nx o) (XF) := by
  intro o hs
  unfold Pa_find at hs
  refine mm_of rfl rfl (Nat.le_of_ble_eq_true rfl) ?_
  show ww C M_X8_find 3 0 0 nx (QV nx o) (XF) nx 0 0 0 [(0, .ref r0), (1, .ref r1), (2, vi x2)] [] (hp nx s)
  refine x_iconst dX8_find_0 ?_
  refine w_istore_n (lv' := [(3, vi 0), (0, .ref r0), (1, .ref r1), (2, vi x2)]) dX8_find_1 rfl (Nat.le_of_ble_eq_true rfl) rfl ?_
  refine w_lv (lv' := [(0, .ref r0), (1, .ref r1), (2, vi x2), (3, vi 0)]) [1, 2, 3, 0] rfl ?_
  exact q_Pa_find_l2 hnx r0 h_r0 r1 h_r1 x2 0 s hs
set_option maxRecDepth 100000 in
theorem q_Hx_pathsOf_b15 {C : Cx} {nx : Nat} (hnx : 80 ≤ nx) (x1 : Int) (u_0 : Nat) (h_u_0 : isPaths u_0) (s : Sg) {o : Nat × Sg} (hs : Hx_pathsOf_b15 x1 u_0 s = some o) : ww C M_X11_pathsOf 4 0 0 nx (QA nx o.2 o.1) (XF) nx 0 0 15 [(0, .ref 0), (1, vi x1)] [.ref u_0] (hp nx s) := by
  unfold Hx_pathsOf_b15 at hs
  refine w_astore_n (lv' := [(2, .ref u_0), (0, .ref 0), (1, vi x1)]) dX11_pathsOf_15 rfl (Nat.le_of_ble_eq_true rfl) rfl ?_
  refine w_aload_n 0 dX11_pathsOf_16 rfl rfl ?_
  refine w_aload_n 1 dX11_pathsOf_17 rfl rfl ?_
  refine x_getR 11 2 (b := 10) dX11_pathsOf_18 (fxX11_28 rfl) rfl rfl (lt_of hnx (Nat.le_of_ble_eq_true rfl)) rfl ?_
  refine x_getR 9 0 (b := 11) dX11_pathsOf_21 (fxX11_194 rfl) rfl rfl (lt_of hnx (Nat.le_of_ble_eq_true rfl)) rfl ?_
  refine w_iload_n 2 dX11_pathsOf_24 rfl rfl ?_
  refine x_V_V M_X8_find [.ref 11, vi x1] [] hs rfl dX11_pathsOf_25 (lkX11_380 _ rfl) (paths_n (j := 0) h_u_0 (by decide) hnx) (paths_s0 h_u_0) rfl (Nat.le_of_ble_eq_true rfl) (Nat.le_of_ble_eq_true rfl) (Nat.le_of_ble_eq_true rfl) (Nat.le_of_ble_eq_true rfl) (c_Pa_find hnx u_0 h_u_0 11 (Or.inl (rowW_of rfl (lt_of hnx (Nat.le_of_ble_eq_true rfl)))) x1 s) (fun s2 hs2 hs => ?_)
  refine w_aload_n 0 dX11_pathsOf_28 rfl rfl ?_
  cases hs
  exact w_areturn rfl rfl dX11_pathsOf_29 rfl (Nat.le_of_ble_eq_true rfl) (Nat.le_of_ble_eq_true rfl) ⟨rfl, rfl⟩
set_option maxRecDepth 100000 in
theorem c_Hx_pathsOf {C : Cx} {nx : Nat} (hnx : 80 ≤ nx) (x1 : Int) (s : Sg) : ∀ o, Hx_pathsOf x1 s = some o → mm C M_X11_pathsOf 4 0 0 nx nx [.ref 0, vi x1] (hp nx s) (QA nx o.2 o.1) (XF) := by
  intro o hs
  unfold Hx_pathsOf at hs
  refine mm_of rfl rfl (Nat.le_of_ble_eq_true rfl) ?_
  show ww C M_X11_pathsOf 4 0 0 nx (QA nx o.2 o.1) (XF) nx 0 0 0 [(0, .ref 0), (1, vi x1)] [] (hp nx s)
  refine w_iload_n 1 dX11_pathsOf_0 rfl rfl ?_
  refine x_ifne hs dX11_pathsOf_1 rfl (fun hs => ?_) (fun hs => ?_)
  · refine w_aload_n 0 dX11_pathsOf_11 rfl rfl ?_
    refine x_getR 11 12 (b := 67) dX11_pathsOf_12 (fxX11_83 rfl) rfl rfl (lt_of hnx (Nat.le_of_ble_eq_true rfl)) rfl ?_
    exact q_Hx_pathsOf_b15 hnx x1 67 (Or.inr rfl) s hs
  · refine w_aload_n 0 dX11_pathsOf_4 rfl rfl ?_
    refine x_getR 11 11 (b := 63) dX11_pathsOf_5 (fxX11_79 rfl) rfl rfl (lt_of hnx (Nat.le_of_ble_eq_true rfl)) rfl ?_
    refine w_goto dX11_pathsOf_8 rfl ?_
    exact q_Hx_pathsOf_b15 hnx x1 63 (Or.inl rfl) s hs
set_option maxRecDepth 100000 in
theorem q_Pa_cost_b28 {C : Cx} {nx : Nat} (hnx : 80 ≤ nx)  (s : Sg) {o : Int} (hs : Pa_cost_b28  s = some o) : ww C M_X8_cost 1 0 0 nx (QI nx s o) (XF) nx 0 0 28 [] [] (hp nx s) := by
  unfold Pa_cost_b28 at hs
  refine x_iconst dX8_cost_28 ?_
  refine w_goto dX8_cost_29 rfl ?_
  cases hs
  exact x_ireturn dX8_cost_44 rfl rfl (Nat.le_of_ble_eq_true rfl) (Nat.le_of_ble_eq_true rfl) ⟨rfl, rfl⟩
set_option maxRecDepth 100000 in
theorem c_Pa_cost {C : Cx} {nx : Nat} (hnx : 80 ≤ nx) (r0 : Nat) (h_r0 : isPaths r0) (x1 : Int) (s : Sg) : ∀ o, Pa_cost r0 x1 s = some o → mm C M_X8_cost 1 0 0 nx nx [.ref r0, vi x1] (hp nx s) (QI nx s o) (XF) := by
  intro o hs
  unfold Pa_cost at hs
  refine mm_of rfl rfl (Nat.le_of_ble_eq_true rfl) ?_
  show ww C M_X8_cost 1 0 0 nx (QI nx s o) (XF) nx 0 0 0 [(0, .ref r0), (1, vi x1)] [] (hp nx s)
  refine w_aload_n 0 dX8_cost_0 rfl rfl ?_
  refine x_getR 8 2 (b := (r0 + 2)) dX8_cost_1 (fxX8_19 rfl) rfl (paths_s0 h_r0) (paths_n (j := 0) h_r0 (by decide) hnx) (paths_r2 h_r0) ?_
  refine w_iload_n 1 dX8_cost_4 rfl rfl ?_
  refine x_N_I M_X11_at [.ref (r0 + 2), vi x1] [] hs rfl dX8_cost_5 (lkX8_31 _ rfl) (Nat.le_of_ble_eq_true rfl) (Nat.le_of_ble_eq_true rfl) (Nat.le_of_ble_eq_true rfl) (Nat.le_of_ble_eq_true rfl) (c_Hx_at hnx (r0 + 2) (Or.inl (rowW_of (paths_s2 h_r0) (paths_n (j := 2) h_r0 (by decide) hnx))) x1 s) (fun y1 hy1 hs => ?_)
  refine w_istore_n (lv' := [(2, vi y1), (0, .ref r0), (1, vi x1)]) dX8_cost_8 rfl (Nat.le_of_ble_eq_true rfl) rfl ?_
  refine w_aload_n 1 dX8_cost_9 rfl rfl ?_
  refine x_getR 8 3 (b := (r0 + 3)) dX8_cost_10 (fxX8_22 rfl) rfl (paths_s0 h_r0) (paths_n (j := 0) h_r0 (by decide) hnx) (paths_r3 h_r0) ?_
  refine w_iload_n 2 dX8_cost_13 rfl rfl ?_
  refine x_N_I M_X11_at [.ref (r0 + 3), vi x1] [] hs rfl dX8_cost_14 (lkX8_31 _ rfl) (Nat.le_of_ble_eq_true rfl) (Nat.le_of_ble_eq_true rfl) (Nat.le_of_ble_eq_true rfl) (Nat.le_of_ble_eq_true rfl) (c_Hx_at hnx (r0 + 3) (Or.inl (rowW_of (paths_s3 h_r0) (paths_n (j := 3) h_r0 (by decide) hnx))) x1 s) (fun y2 hy2 hs => ?_)
  refine w_istore_n (lv' := [(3, vi y2), (2, vi y1), (0, .ref r0), (1, vi x1)]) dX8_cost_17 rfl (Nat.le_of_ble_eq_true rfl) rfl ?_
  refine w_iload_n 1 dX8_cost_18 rfl rfl ?_
  refine x_iconst dX8_cost_19 ?_
  refine x_icmpeq hs dX8_cost_20 rfl (fun hs => ?_) (fun hs => ?_)
  · refine w_lv (lv' := []) [] rfl ?_
    exact q_Pa_cost_b28 hnx  s hs
  · refine w_iload_n 0 dX8_cost_23 rfl rfl ?_
    refine x_iconst dX8_cost_24 ?_
    refine x_icmpne hs dX8_cost_25 rfl (fun hs => ?_) (fun hs => ?_)
    · refine w_iload_n 1 dX8_cost_32 rfl rfl ?_
      refine w_iload_n 0 dX8_cost_33 rfl rfl ?_
      refine x_iadd dX8_cost_34 ?_
      refine w_aload_n 2 dX8_cost_35 rfl rfl ?_
      refine x_getR 8 1 (b := (r0 + 1)) dX8_cost_36 (fxX8_15 rfl) rfl (paths_s0 h_r0) (paths_n (j := 0) h_r0 (by decide) hnx) (paths_r1 h_r0) ?_
      refine w_iload_n 3 dX8_cost_39 rfl rfl ?_
      refine x_N_I M_X11_at [.ref (r0 + 1), vi x1] [vi (y1 + y2)] hs rfl dX8_cost_40 (lkX8_31 _ rfl) (Nat.le_of_ble_eq_true rfl) (Nat.le_of_ble_eq_true rfl) (Nat.le_of_ble_eq_true rfl) (Nat.le_of_ble_eq_true rfl) (c_Hx_at hnx (r0 + 1) (Or.inl (rowW_of (paths_s1 h_r0) (paths_n (j := 1) h_r0 (by decide) hnx))) x1 s) (fun y3 hy3 hs => ?_)
      refine x_isub dX8_cost_43 ?_
      cases hs
      exact x_ireturn dX8_cost_44 rfl rfl (Nat.le_of_ble_eq_true rfl) (Nat.le_of_ble_eq_true rfl) ⟨rfl, rfl⟩
    · refine w_lv (lv' := []) [] rfl ?_
      exact q_Pa_cost_b28 hnx  s hs
set_option maxRecDepth 100000 in
theorem q_Pa_least_b38 {C : Cx} {nx : Nat} (hnx : 80 ≤ nx) {Qr : Option Value → Hp → Prop} {Qx : String → Hp → Prop}  (r0 : Nat) (h_r0 : isPaths r0) (x1 : Int) (x2 : Int) (s : Sg) {o : ((Int × Int) ⊕ (Int))} (hs : Pa_least_b38 r0 x1 x2 s = some o) (hb : ∀ σ : Int × Int, o = .inl σ → ww C M_X8_least 2 0 0 nx (Qr) (Qx) nx 0 0 4 [(0, .ref r0), (1, vi σ.1), (2, vi σ.2)] [] (hp nx s)) (he0 : ∀ ρ : Int, o = .inr ρ → ww C M_X8_least 2 0 0 nx (Qr) (Qx) nx 0 0 44 [(1, vi ρ)] [] (hp nx s)) : ww C M_X8_least 2 0 0 nx (Qr) (Qx) nx 0 0 38 [(0, .ref r0), (1, vi x1), (2, vi x2)] [] (hp nx s) := by
  unfold Pa_least_b38 at hs
  refine x_iinc (lv' := [(2, vi (x2 + 1)), (0, .ref r0), (1, vi x1)]) 2 dX8_least_38 rfl (Nat.le_of_ble_eq_true rfl) rfl ?_
  refine w_goto dX8_least_41 rfl ?_
  refine w_lv (lv' := [(0, .ref r0), (1, vi x1), (2, vi (x2 + 1))]) [1, 2, 0] rfl ?_
  cases hs
  exact hb _ rfl
set_option maxRecDepth 100000 in
theorem q_Pa_least_b36 {C : Cx} {nx : Nat} (hnx : 80 ≤ nx) {Qr : Option Value → Hp → Prop} {Qx : String → Hp → Prop}  (r0 : Nat) (h_r0 : isPaths r0) (x2 : Int) (x3 : Int) (s : Sg) {o : ((Int × Int) ⊕ (Int))} (hs : Pa_least_b36 r0 x2 x3 s = some o) (hb : ∀ σ : Int × Int, o = .inl σ → ww C M_X8_least 2 0 0 nx (Qr) (Qx) nx 0 0 4 [(0, .ref r0), (1, vi σ.1), (2, vi σ.2)] [] (hp nx s)) (he0 : ∀ ρ : Int, o = .inr ρ → ww C M_X8_least 2 0 0 nx (Qr) (Qx) nx 0 0 44 [(1, vi ρ)] [] (hp nx s)) : ww C M_X8_least 2 0 0 nx (Qr) (Qx) nx 0 0 36 [(0, .ref r0), (2, vi x2), (3, vi x3)] [] (hp nx s) := by
  unfold Pa_least_b36 at hs
  refine w_iload_n 2 dX8_least_36 rfl rfl ?_
  refine w_istore_n (lv' := [(1, vi x3), (0, .ref r0), (2, vi x2), (3, vi x3)]) dX8_least_37 rfl (Nat.le_of_ble_eq_true rfl) rfl ?_
  refine w_lv (lv' := [(0, .ref r0), (1, vi x3), (2, vi x2)]) [1, 0, 2] rfl ?_
  exact q_Pa_least_b38 hnx r0 h_r0 x3 x2 s hs hb he0
set_option maxRecDepth 100000 in
theorem q_Pa_least_t4 {C : Cx} {nx : Nat} (hnx : 80 ≤ nx) {Qr : Option Value → Hp → Prop} {Qx : String → Hp → Prop}  (r0 : Nat) (h_r0 : isPaths r0) (x1 : Int) (x2 : Int) (s : Sg) {o : ((Int × Int) ⊕ (Int))} (hs : Pa_least_t4 r0 x1 x2 s = some o) (hb : ∀ σ : Int × Int, o = .inl σ → ww C M_X8_least 2 0 0 nx (Qr) (Qx) nx 0 0 4 [(0, .ref r0), (1, vi σ.1), (2, vi σ.2)] [] (hp nx s)) (he0 : ∀ ρ : Int, o = .inr ρ → ww C M_X8_least 2 0 0 nx (Qr) (Qx) nx 0 0 44 [(1, vi ρ)] [] (hp nx s)) : ww C M_X8_least 2 0 0 nx (Qr) (Qx) nx 0 0 4 [(0, .ref r0), (1, vi x1), (2, vi x2)] [] (hp nx s) := by
  unfold Pa_least_t4 at hs
  refine w_iload_n 2 dX8_least_4 rfl rfl ?_
  refine w_aload_n 0 dX8_least_5 rfl rfl ?_
  refine x_getR 8 0 (b := 1) dX8_least_6 (fxX8_9 rfl) rfl (paths_s0 h_r0) (paths_n (j := 0) h_r0 (by decide) hnx) (paths_r0 h_r0) ?_
  refine x_getI 5 4 dX8_least_9 (fxX8_25 rfl) rfl rfl (lt_of hnx (Nat.le_of_ble_eq_true rfl)) ?_
  refine x_icmpge hs dX8_least_12 rfl (fun hs => ?_) (fun hs => ?_)
  · refine w_lv (lv' := [(1, vi x1)]) [1] rfl ?_
    cases hs
    exact he0 _ rfl
  · refine w_aload_n 0 dX8_least_15 rfl rfl ?_
    refine w_iload_n 2 dX8_least_16 rfl rfl ?_
    refine x_V_I M_X8_cost [vi x2] [] hs rfl dX8_least_17 (lkX8_53 _ rfl) (paths_n (j := 0) h_r0 (by decide) hnx) (paths_s0 h_r0) rfl (Nat.le_of_ble_eq_true rfl) (Nat.le_of_ble_eq_true rfl) (Nat.le_of_ble_eq_true rfl) (Nat.le_of_ble_eq_true rfl) (c_Pa_cost hnx r0 h_r0 x2 s) (fun y1 hy1 hs => ?_)
    refine w_istore_n (lv' := [(3, vi y1), (0, .ref r0), (1, vi x1), (2, vi x2)]) dX8_least_20 rfl (Nat.le_of_ble_eq_true rfl) rfl ?_
    refine w_iload_n 0 dX8_least_21 rfl rfl ?_
    refine x_iconst dX8_least_22 ?_
    refine x_icmpeq hs dX8_least_23 rfl (fun hs => ?_) (fun hs => ?_)
    · refine w_lv (lv' := [(0, .ref r0), (1, vi x1), (2, vi x2)]) [1, 2, 3] rfl ?_
      exact q_Pa_least_b38 hnx r0 h_r0 x1 x2 s hs hb he0
    · refine w_iload_n 2 dX8_least_26 rfl rfl ?_
      refine x_iconst dX8_least_27 ?_
      refine x_icmpeq hs dX8_least_28 rfl (fun hs => ?_) (fun hs => ?_)
      · refine w_lv (lv' := [(0, .ref r0), (2, vi x2), (3, vi y1)]) [1, 3, 0] rfl ?_
        exact q_Pa_least_b36 hnx r0 h_r0 x2 y1 s hs hb he0
      · refine w_iload_n 0 dX8_least_31 rfl rfl ?_
        refine w_iload_n 2 dX8_least_32 rfl rfl ?_
        refine x_icmpge hs dX8_least_33 rfl (fun hs => ?_) (fun hs => ?_)
        · refine w_lv (lv' := [(0, .ref r0), (1, vi x1), (2, vi x2)]) [1, 2, 3] rfl ?_
          exact q_Pa_least_b38 hnx r0 h_r0 x1 x2 s hs hb he0
        · refine w_lv (lv' := [(0, .ref r0), (2, vi x2), (3, vi y1)]) [1, 3, 0] rfl ?_
          exact q_Pa_least_b36 hnx r0 h_r0 x2 y1 s hs hb he0
set_option maxRecDepth 100000 in
theorem q_Pa_least_l4 {C : Cx} {nx : Nat} (hnx : 80 ≤ nx) (r0 : Nat) (h_r0 : isPaths r0) (x1 : Int) (x2 : Int) (s : Sg) {o : Int} (hs : Pa_least_l4 r0 x1 x2 s = some o) : ww C M_X8_least 2 0 0 nx (QI nx s o) (XF) nx 0 0 4 [(0, .ref r0), (1, vi x1), (2, vi x2)] [] (hp nx s) := by
  unfold Pa_least_l4 at hs
  refine bnd_e hs (fun x1_2 hw hs => ?_)
  have hE : ww C M_X8_least 2 0 0 nx (QI nx s o) (XF) nx 0 0 44 [(1, vi x1_2)] [] (hp nx s) := by
    refine w_iload_n 0 dX8_least_44 rfl rfl ?_
    cases hs
    exact x_ireturn dX8_least_45 rfl rfl (Nat.le_of_ble_eq_true rfl) (Nat.le_of_ble_eq_true rfl) ⟨rfl, rfl⟩
  refine whl_w (P := fun σ => ww C M_X8_least 2 0 0 nx (QI nx s o) (XF) nx 0 0 4 [(0, .ref r0), (1, vi σ.1), (2, vi σ.2)] [] (hp nx s)) (E := fun ρ => ρ = x1_2) hw rfl ?_
  intro σ o' hs' hb' he'
  exact q_Pa_least_t4 hnx r0 h_r0 σ.1 σ.2 s hs' hb' (fun ρ e => by cases he' _ e; exact hE)
set_option maxRecDepth 100000 in
theorem c_Pa_least {C : Cx} {nx : Nat} (hnx : 80 ≤ nx) (r0 : Nat) (h_r0 : isPaths r0) (s : Sg) : ∀ o, Pa_least r0 s = some o → mm C M_X8_least 2 0 0 nx nx [.ref r0] (hp nx s) (QI nx s o) (XF) := by
  intro o hs
  unfold Pa_least at hs
  refine mm_of rfl rfl (Nat.le_of_ble_eq_true rfl) ?_
  show ww C M_X8_least 2 0 0 nx (QI nx s o) (XF) nx 0 0 0 [(0, .ref r0)] [] (hp nx s)
  refine x_iconst dX8_least_0 ?_
  refine w_istore_n (lv' := [(1, vi (-1)), (0, .ref r0)]) dX8_least_1 rfl (Nat.le_of_ble_eq_true rfl) rfl ?_
  refine x_iconst dX8_least_2 ?_
  refine w_istore_n (lv' := [(2, vi 0), (1, vi (-1)), (0, .ref r0)]) dX8_least_3 rfl (Nat.le_of_ble_eq_true rfl) rfl ?_
  refine w_lv (lv' := [(0, .ref r0), (1, vi (-1)), (2, vi 0)]) [2, 1, 0] rfl ?_
  exact q_Pa_least_l4 hnx r0 h_r0 (-1) 0 s hs
set_option maxRecDepth 100000 in
theorem c_Hx_distance {C : Cx} {nx : Nat} (hnx : 80 ≤ nx) (hnK : KN ≤ nx) (x1 : Int) (s : Sg) : ∀ o, Hx_distance x1 s = some o → mm C M_X11_distance 10 1 6 nx nx [.ref 0, vi x1] (hp nx s) (QT nx o) (XT nx o) := by
  intro o hs
  unfold Hx_distance at hs
  refine mm_of rfl rfl (Nat.le_of_ble_eq_true rfl) ?_
  show ww C M_X11_distance 10 1 6 nx (QT nx o) (XT nx o) nx 0 0 0 [(0, .ref 0), (1, vi x1)] [] (hp nx s)
  refine w_iload_n 1 dX11_distance_0 rfl rfl ?_
  refine x_S_U M_X11_requireSide [vi x1] [] hs rfl dX11_distance_1 (lkX11_211 _ rfl) (Nat.le_of_ble_eq_true rfl) (Nat.le_of_ble_eq_true rfl) (Nat.le_of_ble_eq_true rfl) (Nat.le_of_ble_eq_true rfl) (c_Hx_requireSide hnx hnK x1 s) rfl (fun y1 s2 hy1 hs => ?_)
  refine w_aload_n 0 dX11_distance_4 rfl rfl ?_
  refine w_iload_n 1 dX11_distance_5 rfl rfl ?_
  refine x_V_A M_X11_pathsOf [vi x1] [] hs rfl dX11_distance_6 (lkX11_265 _ rfl) (lt_of hnx (Nat.le_of_ble_eq_true rfl)) rfl rfl (Nat.le_of_ble_eq_true rfl) (Nat.le_of_ble_eq_true rfl) (Nat.le_of_ble_eq_true rfl) (Nat.le_of_ble_eq_true rfl) (c_Hx_pathsOf hnx x1 s2) (fun y3 s4 hy3 hs => ?_)
  have h_y3 := p_Hx_pathsOf hy3
  refine x_V_I M_X8_least [] [] hs rfl dX11_distance_9 (lkX11_269 _ rfl) (paths_n (j := 0) h_y3 (by decide) hnx) (paths_s0 h_y3) rfl (Nat.le_of_ble_eq_true rfl) (Nat.le_of_ble_eq_true rfl) (Nat.le_of_ble_eq_true rfl) (Nat.le_of_ble_eq_true rfl) (c_Pa_least hnx y3 h_y3 s4) (fun y5 hy5 hs => ?_)
  cases hs
  exact x_ireturn dX11_distance_12 rfl rfl (Nat.le_of_ble_eq_true rfl) (Nat.le_of_ble_eq_true rfl) ⟨_, rfl, rfl, rfl⟩
set_option maxRecDepth 100000 in
theorem c_Hx_through {C : Cx} {nx : Nat} (hnx : 80 ≤ nx) (hnK : KN ≤ nx) (x1 : Int) (x2 : Int) (s : Sg) : ∀ o, Hx_through x1 x2 s = some o → mm C M_X11_through 10 2 12 nx nx [.ref 0, vi x1, vi x2] (hp nx s) (QT nx o) (XT nx o) := by
  intro o hs
  unfold Hx_through at hs
  refine mm_of rfl rfl (Nat.le_of_ble_eq_true rfl) ?_
  show ww C M_X11_through 10 2 12 nx (QT nx o) (XT nx o) nx 0 0 0 [(0, .ref 0), (1, vi x1), (2, vi x2)] [] (hp nx s)
  refine w_iload_n 1 dX11_through_0 rfl rfl ?_
  refine x_S_U M_X11_requireSide [vi x1] [] hs rfl dX11_through_1 (lkX11_211 _ rfl) (Nat.le_of_ble_eq_true rfl) (Nat.le_of_ble_eq_true rfl) (Nat.le_of_ble_eq_true rfl) (Nat.le_of_ble_eq_true rfl) (c_Hx_requireSide hnx hnK x1 s) rfl (fun y1 s2 hy1 hs => ?_)
  refine w_aload_n 0 dX11_through_4 rfl rfl ?_
  refine w_iload_n 2 dX11_through_5 rfl rfl ?_
  refine x_V_U M_X11_requireCell [vi x2] [] hs rfl dX11_through_6 (lkX11_180 _ rfl) (lt_of hnx (Nat.le_of_ble_eq_true rfl)) rfl rfl (Nat.le_of_ble_eq_true rfl) (Nat.le_of_ble_eq_true rfl) (Nat.le_of_ble_eq_true rfl) (Nat.le_of_ble_eq_true rfl) (c_Hx_requireCell hnx hnK x2 s2) rfl (fun y3 s4 hy3 hs => ?_)
  refine w_aload_n 0 dX11_through_9 rfl rfl ?_
  refine w_iload_n 1 dX11_through_10 rfl rfl ?_
  refine x_V_A M_X11_pathsOf [vi x1] [] hs rfl dX11_through_11 (lkX11_265 _ rfl) (lt_of hnx (Nat.le_of_ble_eq_true rfl)) rfl rfl (Nat.le_of_ble_eq_true rfl) (Nat.le_of_ble_eq_true rfl) (Nat.le_of_ble_eq_true rfl) (Nat.le_of_ble_eq_true rfl) (c_Hx_pathsOf hnx x1 s4) (fun y5 s6 hy5 hs => ?_)
  have h_y5 := p_Hx_pathsOf hy5
  refine w_iload_n 2 dX11_through_14 rfl rfl ?_
  refine x_V_I M_X8_cost [vi x2] [] hs rfl dX11_through_15 (lkX11_272 _ rfl) (paths_n (j := 0) h_y5 (by decide) hnx) (paths_s0 h_y5) rfl (Nat.le_of_ble_eq_true rfl) (Nat.le_of_ble_eq_true rfl) (Nat.le_of_ble_eq_true rfl) (Nat.le_of_ble_eq_true rfl) (c_Pa_cost hnx y5 h_y5 x2 s6) (fun y7 hy7 hs => ?_)
  cases hs
  exact x_ireturn dX11_through_18 rfl rfl (Nat.le_of_ble_eq_true rfl) (Nat.le_of_ble_eq_true rfl) ⟨_, rfl, rfl, rfl⟩
set_option maxRecDepth 100000 in
theorem q_Hx_useful_b64 {C : Cx} {nx : Nat} (hnx : 80 ≤ nx) (hnK : KN ≤ nx) {Qr : Option Value → Hp → Prop} {Qx : String → Hp → Prop}  (r2 : Nat) (h_r2 : isPaths r2) (x3 : Int) (x4 : Int) (x5 : Int) (s : Sg) {o : ((Int × Int) ⊕ (Int))} (hs : Hx_useful_b64 r2 x3 x4 x5 s = some o) (hb : ∀ σ : Int × Int, o = .inl σ → ww C M_X11_useful 10 1 6 nx (Qr) (Qx) nx 1 6 21 [(0, .ref 0), (2, .ref r2), (3, vi x3), (4, vi σ.1), (5, vi σ.2)] [] (hp nx s)) (he0 : ∀ ρ : Int, o = .inr ρ → ww C M_X11_useful 10 1 6 nx (Qr) (Qx) nx 1 6 70 [(4, vi ρ)] [] (hp nx s)) : ww C M_X11_useful 10 1 6 nx (Qr) (Qx) nx 1 6 64 [(0, .ref 0), (2, .ref r2), (3, vi x3), (4, vi x4), (5, vi x5)] [] (hp nx s) := by
  unfold Hx_useful_b64 at hs
  refine x_iinc (lv' := [(5, vi (x5 + 1)), (0, .ref 0), (2, .ref r2), (3, vi x3), (4, vi x4)]) 4 dX11_useful_64 rfl (Nat.le_of_ble_eq_true rfl) rfl ?_
  refine w_goto dX11_useful_67 rfl ?_
  refine w_lv (lv' := [(0, .ref 0), (2, .ref r2), (3, vi x3), (4, vi x4), (5, vi (x5 + 1))]) [1, 2, 3, 4, 0] rfl ?_
  cases hs
  exact hb _ rfl
set_option maxRecDepth 100000 in
theorem q_Hx_useful_t21 {C : Cx} {nx : Nat} (hnx : 80 ≤ nx) (hnK : KN ≤ nx) {Qr : Option Value → Hp → Prop} {Qx : String → Hp → Prop}  (r2 : Nat) (h_r2 : isPaths r2) (x3 : Int) (x4 : Int) (x5 : Int) (s : Sg) {o : ((Int × Int) ⊕ (Int))} (hs : Hx_useful_t21 r2 x3 x4 x5 s = some o) (hb : ∀ σ : Int × Int, o = .inl σ → ww C M_X11_useful 10 1 6 nx (Qr) (Qx) nx 1 6 21 [(0, .ref 0), (2, .ref r2), (3, vi x3), (4, vi σ.1), (5, vi σ.2)] [] (hp nx s)) (he0 : ∀ ρ : Int, o = .inr ρ → ww C M_X11_useful 10 1 6 nx (Qr) (Qx) nx 1 6 70 [(4, vi ρ)] [] (hp nx s)) : ww C M_X11_useful 10 1 6 nx (Qr) (Qx) nx 1 6 21 [(0, .ref 0), (2, .ref r2), (3, vi x3), (4, vi x4), (5, vi x5)] [] (hp nx s) := by
  unfold Hx_useful_t21 at hs
  refine w_iload 4 dX11_useful_21 rfl ?_
  refine w_aload_n 0 dX11_useful_23 rfl rfl ?_
  refine x_getR 11 0 (b := 1) dX11_useful_24 (fxX11_10 rfl) rfl rfl (lt_of hnx (Nat.le_of_ble_eq_true rfl)) rfl ?_
  refine x_getI 5 4 dX11_useful_27 (fxX11_275 rfl) rfl rfl (lt_of hnx (Nat.le_of_ble_eq_true rfl)) ?_
  refine x_icmpge hs dX11_useful_30 rfl (fun hs => ?_) (fun hs => ?_)
  · refine w_lv (lv' := [(4, vi x4)]) [3] rfl ?_
    cases hs
    exact he0 _ rfl
  · refine w_iload_n 2 dX11_useful_33 rfl rfl ?_
    refine x_iconst dX11_useful_34 ?_
    refine x_icmpeq hs dX11_useful_35 rfl (fun hs => ?_) (fun hs => ?_)
    · exact q_Hx_useful_b64 hnx hnK r2 h_r2 x3 x4 x5 s hs hb he0
    · refine w_aload_n 0 dX11_useful_38 rfl rfl ?_
      refine x_getR 11 2 (b := 10) dX11_useful_39 (fxX11_28 rfl) rfl rfl (lt_of hnx (Nat.le_of_ble_eq_true rfl)) rfl ?_
      refine w_iload 4 dX11_useful_42 rfl ?_
      refine x_V_I M_X9_stone [vi x5] [] hs rfl dX11_useful_44 (lkX11_183 _ rfl) (lt_of hnx (Nat.le_of_ble_eq_true rfl)) rfl rfl (Nat.le_of_ble_eq_true rfl) (Nat.le_of_ble_eq_true rfl) (Nat.le_of_ble_eq_true rfl) (Nat.le_of_ble_eq_true rfl) (c_Po_stone hnx 10 (show 10 ∈ posL by decide) x5 s) (fun y6 hy6 hs => ?_)
      refine x_iconst dX11_useful_47 ?_
      refine x_icmpne hs dX11_useful_48 rfl (fun hs => ?_) (fun hs => ?_)
      · exact q_Hx_useful_b64 hnx hnK r2 h_r2 x3 x4 x5 s hs hb he0
      · refine w_aload_n 1 dX11_useful_51 rfl rfl ?_
        refine w_iload 4 dX11_useful_52 rfl ?_
        refine x_V_I M_X8_cost [vi x5] [] hs rfl dX11_useful_54 (lkX11_272 _ rfl) (paths_n (j := 0) h_r2 (by decide) hnx) (paths_s0 h_r2) rfl (Nat.le_of_ble_eq_true rfl) (Nat.le_of_ble_eq_true rfl) (Nat.le_of_ble_eq_true rfl) (Nat.le_of_ble_eq_true rfl) (c_Pa_cost hnx r2 h_r2 x5 s) (fun y7 hy7 hs => ?_)
        refine w_iload_n 2 dX11_useful_57 rfl rfl ?_
        refine x_icmpne hs dX11_useful_58 rfl (fun hs => ?_) (fun hs => ?_)
        · exact q_Hx_useful_b64 hnx hnK r2 h_r2 x3 x4 x5 s hs hb he0
        · refine x_iinc (lv' := [(4, vi (x4 + 1)), (0, .ref 0), (2, .ref r2), (3, vi x3), (5, vi x5)]) 3 dX11_useful_61 rfl (Nat.le_of_ble_eq_true rfl) rfl ?_
          refine w_lv (lv' := [(0, .ref 0), (2, .ref r2), (3, vi x3), (4, vi (x4 + 1)), (5, vi x5)]) [1, 2, 3, 0, 4] rfl ?_
          exact q_Hx_useful_b64 hnx hnK r2 h_r2 x3 (x4 + 1) x5 s hs hb he0
set_option maxRecDepth 100000 in
theorem q_Hx_useful_l21 {C : Cx} {nx : Nat} (hnx : 80 ≤ nx) (hnK : KN ≤ nx) (r2 : Nat) (h_r2 : isPaths r2) (x3 : Int) (x4 : Int) (x5 : Int) (s : Sg) {o : (Nat ⊕ Int) × Sg} (hs : Hx_useful_l21 r2 x3 x4 x5 s = some o) : ww C M_X11_useful 10 1 6 nx (QT nx o) (XT nx o) nx 1 6 21 [(0, .ref 0), (2, .ref r2), (3, vi x3), (4, vi x4), (5, vi x5)] [] (hp nx s) := by
  unfold Hx_useful_l21 at hs
  refine bnd_e hs (fun x4_8 hw hs => ?_)
  have hE : ww C M_X11_useful 10 1 6 nx (QT nx o) (XT nx o) nx 1 6 70 [(4, vi x4_8)] [] (hp nx s) := by
    refine w_iload 0 dX11_useful_70 rfl ?_
    cases hs
    exact x_ireturn dX11_useful_72 rfl rfl (Nat.le_of_ble_eq_true rfl) (Nat.le_of_ble_eq_true rfl) ⟨_, rfl, rfl, rfl⟩
  refine whl_w (P := fun σ => ww C M_X11_useful 10 1 6 nx (QT nx o) (XT nx o) nx 1 6 21 [(0, .ref 0), (2, .ref r2), (3, vi x3), (4, vi σ.1), (5, vi σ.2)] [] (hp nx s)) (E := fun ρ => ρ = x4_8) hw rfl ?_
  intro σ o' hs' hb' he'
  exact q_Hx_useful_t21 hnx hnK r2 h_r2 x3 σ.1 σ.2 s hs' hb' (fun ρ e => by cases he' _ e; exact hE)
set_option maxRecDepth 100000 in
theorem c_Hx_useful {C : Cx} {nx : Nat} (hnx : 80 ≤ nx) (hnK : KN ≤ nx) (x1 : Int) (s : Sg) : ∀ o, Hx_useful x1 s = some o → mm C M_X11_useful 10 1 6 nx nx [.ref 0, vi x1] (hp nx s) (QT nx o) (XT nx o) := by
  intro o hs
  unfold Hx_useful at hs
  refine mm_of rfl rfl (Nat.le_of_ble_eq_true rfl) ?_
  show ww C M_X11_useful 10 1 6 nx (QT nx o) (XT nx o) nx 0 0 0 [(0, .ref 0), (1, vi x1)] [] (hp nx s)
  refine w_iload_n 1 dX11_useful_0 rfl rfl ?_
  refine x_S_U M_X11_requireSide [vi x1] [] hs rfl dX11_useful_1 (lkX11_211 _ rfl) (Nat.le_of_ble_eq_true rfl) (Nat.le_of_ble_eq_true rfl) (Nat.le_of_ble_eq_true rfl) (Nat.le_of_ble_eq_true rfl) (c_Hx_requireSide hnx hnK x1 s) rfl (fun y1 s2 hy1 hs => ?_)
  refine w_aload_n 0 dX11_useful_4 rfl rfl ?_
  refine w_iload_n 1 dX11_useful_5 rfl rfl ?_
  refine x_V_A M_X11_pathsOf [vi x1] [] hs rfl dX11_useful_6 (lkX11_265 _ rfl) (lt_of hnx (Nat.le_of_ble_eq_true rfl)) rfl rfl (Nat.le_of_ble_eq_true rfl) (Nat.le_of_ble_eq_true rfl) (Nat.le_of_ble_eq_true rfl) (Nat.le_of_ble_eq_true rfl) (c_Hx_pathsOf hnx x1 s2) (fun y3 s4 hy3 hs => ?_)
  have h_y3 := p_Hx_pathsOf hy3
  refine w_astore_n (lv' := [(2, .ref y3), (0, .ref 0), (1, vi x1)]) dX11_useful_9 rfl (Nat.le_of_ble_eq_true rfl) rfl ?_
  refine w_aload_n 0 dX11_useful_10 rfl rfl ?_
  refine x_V_I M_X8_least [] [] hs rfl dX11_useful_11 (lkX11_269 _ rfl) (paths_n (j := 0) h_y3 (by decide) hnx) (paths_s0 h_y3) rfl (Nat.le_of_ble_eq_true rfl) (Nat.le_of_ble_eq_true rfl) (Nat.le_of_ble_eq_true rfl) (Nat.le_of_ble_eq_true rfl) (c_Pa_least hnx y3 h_y3 s4) (fun y5 hy5 hs => ?_)
  refine w_istore_n (lv' := [(3, vi y5), (2, .ref y3), (0, .ref 0), (1, vi x1)]) dX11_useful_14 rfl (Nat.le_of_ble_eq_true rfl) rfl ?_
  refine x_iconst dX11_useful_15 ?_
  refine w_istore (lv' := [(4, vi 0), (3, vi y5), (2, .ref y3), (0, .ref 0), (1, vi x1)]) dX11_useful_16 (Nat.le_of_ble_eq_true rfl) rfl ?_
  refine x_iconst dX11_useful_18 ?_
  refine w_istore (lv' := [(5, vi 0), (4, vi 0), (3, vi y5), (2, .ref y3), (0, .ref 0), (1, vi x1)]) dX11_useful_19 (Nat.le_of_ble_eq_true rfl) rfl ?_
  refine w_lv (lv' := [(0, .ref 0), (2, .ref y3), (3, vi y5), (4, vi 0), (5, vi 0)]) [4, 3, 2, 1, 0] rfl ?_
  exact q_Hx_useful_l21 hnx hnK y3 h_y3 y5 0 0 s4 hs
set_option maxRecDepth 100000 in
theorem q_Hx_shared_b110 {C : Cx} {nx : Nat} (hnx : 80 ≤ nx) {Qr : Option Value → Hp → Prop} {Qx : String → Hp → Prop}  (r1 : Nat) (h_r1 : isPaths r1) (r2 : Nat) (h_r2 : isPaths r2) (x3 : Int) (x4 : Int) (x5 : Int) (s : Sg) {o : ((Int × Int × Int) ⊕ (Int))} (hs : Hx_shared_b110 r1 r2 x3 x4 x5 s = some o) (hb : ∀ σ : Int × Int × Int, o = .inl σ → ww C M_X11_shared 5 0 0 nx (Qr) (Qx) nx 0 0 20 [(0, .ref 0), (1, .ref r1), (2, .ref r2), (3, vi σ.1), (4, vi σ.2.1), (5, vi σ.2.2)] [] (hp nx s)) (he0 : ∀ ρ : Int, o = .inr ρ → ww C M_X11_shared 5 0 0 nx (Qr) (Qx) nx 0 0 116 [(3, vi ρ)] [] (hp nx s)) : ww C M_X11_shared 5 0 0 nx (Qr) (Qx) nx 0 0 110 [(0, .ref 0), (1, .ref r1), (2, .ref r2), (3, vi x3), (4, vi x4), (5, vi x5)] [] (hp nx s) := by
  unfold Hx_shared_b110 at hs
  refine x_iinc (lv' := [(5, vi (x5 + 1)), (0, .ref 0), (1, .ref r1), (2, .ref r2), (3, vi x3), (4, vi x4)]) 5 dX11_shared_110 rfl (Nat.le_of_ble_eq_true rfl) rfl ?_
  refine w_goto dX11_shared_113 rfl ?_
  refine w_lv (lv' := [(0, .ref 0), (1, .ref r1), (2, .ref r2), (3, vi x3), (4, vi x4), (5, vi (x5 + 1))]) [1, 2, 3, 4, 5, 0] rfl ?_
  cases hs
  exact hb _ rfl
set_option maxRecDepth 100000 in
theorem q_Hx_shared_b100 {C : Cx} {nx : Nat} (hnx : 80 ≤ nx) {Qr : Option Value → Hp → Prop} {Qx : String → Hp → Prop}  (r1 : Nat) (h_r1 : isPaths r1) (r2 : Nat) (h_r2 : isPaths r2) (x5 : Int) (x6 : Int) (x7 : Int) (s : Sg) {o : ((Int × Int × Int) ⊕ (Int))} (hs : Hx_shared_b100 r1 r2 x5 x6 x7 s = some o) (hb : ∀ σ : Int × Int × Int, o = .inl σ → ww C M_X11_shared 5 0 0 nx (Qr) (Qx) nx 0 0 20 [(0, .ref 0), (1, .ref r1), (2, .ref r2), (3, vi σ.1), (4, vi σ.2.1), (5, vi σ.2.2)] [] (hp nx s)) (he0 : ∀ ρ : Int, o = .inr ρ → ww C M_X11_shared 5 0 0 nx (Qr) (Qx) nx 0 0 116 [(3, vi ρ)] [] (hp nx s)) : ww C M_X11_shared 5 0 0 nx (Qr) (Qx) nx 0 0 100 [(0, .ref 0), (1, .ref r1), (2, .ref r2), (5, vi x5), (6, vi x6), (7, vi x7)] [] (hp nx s) := by
  unfold Hx_shared_b100 at hs
  refine w_iload 3 dX11_shared_100 rfl ?_
  refine w_istore_n (lv' := [(3, vi x5), (0, .ref 0), (1, .ref r1), (2, .ref r2), (5, vi x5), (6, vi x6), (7, vi x7)]) dX11_shared_102 rfl (Nat.le_of_ble_eq_true rfl) rfl ?_
  refine w_iload 5 dX11_shared_103 rfl ?_
  refine w_iload 6 dX11_shared_105 rfl ?_
  refine x_iadd dX11_shared_107 ?_
  refine x_istore (fun x4_8 => [(4, vi x4_8), (3, vi x5), (0, .ref 0), (1, .ref r1), (2, .ref r2), (5, vi x5), (6, vi x6), (7, vi x7)]) hs dX11_shared_108 (Nat.le_of_ble_eq_true rfl) (fun _ => rfl) (fun x4_8 hs => ?_)
  refine w_lv (lv' := [(0, .ref 0), (1, .ref r1), (2, .ref r2), (3, vi x5), (4, vi x4_8), (5, vi x5)]) [2, 3, 4, 1, 0, 5] rfl ?_
  exact q_Hx_shared_b110 hnx r1 h_r1 r2 h_r2 x5 x4_8 x5 s hs hb he0
set_option maxRecDepth 100000 in
theorem q_Hx_shared_b78 {C : Cx} {nx : Nat} (hnx : 80 ≤ nx) {Qr : Option Value → Hp → Prop} {Qx : String → Hp → Prop}  (r1 : Nat) (h_r1 : isPaths r1) (r2 : Nat) (h_r2 : isPaths r2) (x3 : Int) (x4 : Int) (x5 : Int) (x6 : Int) (x7 : Int) (t0 : Int) (s : Sg) {o : ((Int × Int × Int) ⊕ (Int))} (hs : Hx_shared_b78 r1 r2 x3 x4 x5 x6 x7 t0 s = some o) (hb : ∀ σ : Int × Int × Int, o = .inl σ → ww C M_X11_shared 5 0 0 nx (Qr) (Qx) nx 0 0 20 [(0, .ref 0), (1, .ref r1), (2, .ref r2), (3, vi σ.1), (4, vi σ.2.1), (5, vi σ.2.2)] [] (hp nx s)) (he0 : ∀ ρ : Int, o = .inr ρ → ww C M_X11_shared 5 0 0 nx (Qr) (Qx) nx 0 0 116 [(3, vi ρ)] [] (hp nx s)) : ww C M_X11_shared 5 0 0 nx (Qr) (Qx) nx 0 0 78 [(0, .ref 0), (1, .ref r1), (2, .ref r2), (3, vi x3), (4, vi x4), (5, vi x5), (6, vi x6), (7, vi x7)] [vi t0] (hp nx s) := by
  unfold Hx_shared_b78 at hs
  refine w_istore (lv' := [(8, vi t0), (0, .ref 0), (1, .ref r1), (2, .ref r2), (3, vi x3), (4, vi x4), (5, vi x5), (6, vi x6), (7, vi x7)]) dX11_shared_78 (Nat.le_of_ble_eq_true rfl) rfl ?_
  refine w_iload 0 dX11_shared_80 rfl ?_
  refine x_ifeq hs dX11_shared_82 rfl (fun hs => ?_) (fun hs => ?_)
  · refine w_lv (lv' := [(0, .ref 0), (1, .ref r1), (2, .ref r2), (3, vi x3), (4, vi x4), (5, vi x5)]) [1, 2, 3, 4, 5, 6] rfl ?_
    exact q_Hx_shared_b110 hnx r1 h_r1 r2 h_r2 x3 x4 x5 s hs hb he0
  · refine w_iload_n 4 dX11_shared_85 rfl rfl ?_
    refine x_iconst dX11_shared_86 ?_
    refine x_icmpeq hs dX11_shared_87 rfl (fun hs => ?_) (fun hs => ?_)
    · refine w_lv (lv' := [(0, .ref 0), (1, .ref r1), (2, .ref r2), (5, vi x5), (6, vi x6), (7, vi x7)]) [1, 2, 3, 6, 7, 8] rfl ?_
      exact q_Hx_shared_b100 hnx r1 h_r1 r2 h_r2 x5 x6 x7 s hs hb he0
    · refine w_iload 7 dX11_shared_90 rfl ?_
      refine w_iload 8 dX11_shared_92 rfl ?_
      refine x_iadd dX11_shared_94 ?_
      refine w_iload 5 dX11_shared_95 rfl ?_
      refine x_icmpge hs dX11_shared_97 rfl (fun hs => ?_) (fun hs => ?_)
      · refine w_lv (lv' := [(0, .ref 0), (1, .ref r1), (2, .ref r2), (3, vi x3), (4, vi x4), (5, vi x5)]) [1, 2, 3, 4, 5, 6] rfl ?_
        exact q_Hx_shared_b110 hnx r1 h_r1 r2 h_r2 x3 x4 x5 s hs hb he0
      · refine w_lv (lv' := [(0, .ref 0), (1, .ref r1), (2, .ref r2), (5, vi x5), (6, vi x6), (7, vi x7)]) [1, 2, 3, 6, 7, 8] rfl ?_
        exact q_Hx_shared_b100 hnx r1 h_r1 r2 h_r2 x5 x6 x7 s hs hb he0
set_option maxRecDepth 100000 in
theorem q_Hx_shared_b77 {C : Cx} {nx : Nat} (hnx : 80 ≤ nx) {Qr : Option Value → Hp → Prop} {Qx : String → Hp → Prop}  (r1 : Nat) (h_r1 : isPaths r1) (r2 : Nat) (h_r2 : isPaths r2) (x3 : Int) (x4 : Int) (x5 : Int) (x6 : Int) (x7 : Int) (s : Sg) {o : ((Int × Int × Int) ⊕ (Int))} (hs : Hx_shared_b77 r1 r2 x3 x4 x5 x6 x7 s = some o) (hb : ∀ σ : Int × Int × Int, o = .inl σ → ww C M_X11_shared 5 0 0 nx (Qr) (Qx) nx 0 0 20 [(0, .ref 0), (1, .ref r1), (2, .ref r2), (3, vi σ.1), (4, vi σ.2.1), (5, vi σ.2.2)] [] (hp nx s)) (he0 : ∀ ρ : Int, o = .inr ρ → ww C M_X11_shared 5 0 0 nx (Qr) (Qx) nx 0 0 116 [(3, vi ρ)] [] (hp nx s)) : ww C M_X11_shared 5 0 0 nx (Qr) (Qx) nx 0 0 77 [(0, .ref 0), (1, .ref r1), (2, .ref r2), (3, vi x3), (4, vi x4), (5, vi x5), (6, vi x6), (7, vi x7)] [] (hp nx s) := by
  unfold Hx_shared_b77 at hs
  refine x_iconst dX11_shared_77 ?_
  exact q_Hx_shared_b78 hnx r1 h_r1 r2 h_r2 x3 x4 x5 x6 x7 0 s hs hb he0
set_option maxRecDepth 100000 in
theorem q_Hx_shared_t20 {C : Cx} {nx : Nat} (hnx : 80 ≤ nx) {Qr : Option Value → Hp → Prop} {Qx : String → Hp → Prop}  (r1 : Nat) (h_r1 : isPaths r1) (r2 : Nat) (h_r2 : isPaths r2) (x3 : Int) (x4 : Int) (x5 : Int) (s : Sg) {o : ((Int × Int × Int) ⊕ (Int))} (hs : Hx_shared_t20 r1 r2 x3 x4 x5 s = some o) (hb : ∀ σ : Int × Int × Int, o = .inl σ → ww C M_X11_shared 5 0 0 nx (Qr) (Qx) nx 0 0 20 [(0, .ref 0), (1, .ref r1), (2, .ref r2), (3, vi σ.1), (4, vi σ.2.1), (5, vi σ.2.2)] [] (hp nx s)) (he0 : ∀ ρ : Int, o = .inr ρ → ww C M_X11_shared 5 0 0 nx (Qr) (Qx) nx 0 0 116 [(3, vi ρ)] [] (hp nx s)) : ww C M_X11_shared 5 0 0 nx (Qr) (Qx) nx 0 0 20 [(0, .ref 0), (1, .ref r1), (2, .ref r2), (3, vi x3), (4, vi x4), (5, vi x5)] [] (hp nx s) := by
  unfold Hx_shared_t20 at hs
  refine w_iload 5 dX11_shared_20 rfl ?_
  refine w_aload_n 0 dX11_shared_22 rfl rfl ?_
  refine x_getR 11 0 (b := 1) dX11_shared_23 (fxX11_10 rfl) rfl rfl (lt_of hnx (Nat.le_of_ble_eq_true rfl)) rfl ?_
  refine x_getI 5 4 dX11_shared_26 (fxX11_275 rfl) rfl rfl (lt_of hnx (Nat.le_of_ble_eq_true rfl)) ?_
  refine x_icmpge hs dX11_shared_29 rfl (fun hs => ?_) (fun hs => ?_)
  · refine w_lv (lv' := [(3, vi x3)]) [3] rfl ?_
    cases hs
    exact he0 _ rfl
  · refine w_aload_n 1 dX11_shared_32 rfl rfl ?_
    refine w_iload 5 dX11_shared_33 rfl ?_
    refine x_V_I M_X8_cost [vi x5] [] hs rfl dX11_shared_35 (lkX11_272 _ rfl) (paths_n (j := 0) h_r1 (by decide) hnx) (paths_s0 h_r1) rfl (Nat.le_of_ble_eq_true rfl) (Nat.le_of_ble_eq_true rfl) (Nat.le_of_ble_eq_true rfl) (Nat.le_of_ble_eq_true rfl) (c_Pa_cost hnx r1 h_r1 x5 s) (fun y5 hy5 hs => ?_)
    refine w_istore (lv' := [(6, vi y5), (0, .ref 0), (1, .ref r1), (2, .ref r2), (3, vi x3), (4, vi x4), (5, vi x5)]) dX11_shared_38 (Nat.le_of_ble_eq_true rfl) rfl ?_
    refine w_aload_n 3 dX11_shared_40 rfl rfl ?_
    refine w_iload 6 dX11_shared_41 rfl ?_
    refine x_V_I M_X8_cost [vi x5] [] hs rfl dX11_shared_43 (lkX11_272 _ rfl) (paths_n (j := 0) h_r2 (by decide) hnx) (paths_s0 h_r2) rfl (Nat.le_of_ble_eq_true rfl) (Nat.le_of_ble_eq_true rfl) (Nat.le_of_ble_eq_true rfl) (Nat.le_of_ble_eq_true rfl) (c_Pa_cost hnx r2 h_r2 x5 s) (fun y6 hy6 hs => ?_)
    refine w_istore (lv' := [(7, vi y6), (6, vi y5), (0, .ref 0), (1, .ref r1), (2, .ref r2), (3, vi x3), (4, vi x4), (5, vi x5)]) dX11_shared_46 (Nat.le_of_ble_eq_true rfl) rfl ?_
    refine w_aload_n 2 dX11_shared_48 rfl rfl ?_
    refine x_getR 11 2 (b := 10) dX11_shared_49 (fxX11_28 rfl) rfl rfl (lt_of hnx (Nat.le_of_ble_eq_true rfl)) rfl ?_
    refine w_iload 7 dX11_shared_52 rfl ?_
    refine x_V_I M_X9_stone [vi x5] [] hs rfl dX11_shared_54 (lkX11_183 _ rfl) (lt_of hnx (Nat.le_of_ble_eq_true rfl)) rfl rfl (Nat.le_of_ble_eq_true rfl) (Nat.le_of_ble_eq_true rfl) (Nat.le_of_ble_eq_true rfl) (Nat.le_of_ble_eq_true rfl) (c_Po_stone hnx 10 (show 10 ∈ posL by decide) x5 s) (fun y7 hy7 hs => ?_)
    refine x_iconst dX11_shared_57 ?_
    refine x_icmpne hs dX11_shared_58 rfl (fun hs => ?_) (fun hs => ?_)
    · refine w_lv (lv' := [(0, .ref 0), (1, .ref r1), (2, .ref r2), (3, vi x3), (4, vi x4), (5, vi x5), (6, vi y5), (7, vi y6)]) [2, 3, 4, 5, 6, 7, 1, 0] rfl ?_
      exact q_Hx_shared_b77 hnx r1 h_r1 r2 h_r2 x3 x4 x5 y5 y6 s hs hb he0
    · refine w_iload 1 dX11_shared_61 rfl ?_
      refine x_iconst dX11_shared_63 ?_
      refine x_icmpeq hs dX11_shared_64 rfl (fun hs => ?_) (fun hs => ?_)
      · refine w_lv (lv' := [(0, .ref 0), (1, .ref r1), (2, .ref r2), (3, vi x3), (4, vi x4), (5, vi x5), (6, vi y5), (7, vi y6)]) [2, 3, 4, 5, 6, 7, 1, 0] rfl ?_
        exact q_Hx_shared_b77 hnx r1 h_r1 r2 h_r2 x3 x4 x5 y5 y6 s hs hb he0
      · refine w_iload 0 dX11_shared_67 rfl ?_
        refine x_iconst dX11_shared_69 ?_
        refine x_icmpeq hs dX11_shared_70 rfl (fun hs => ?_) (fun hs => ?_)
        · refine w_lv (lv' := [(0, .ref 0), (1, .ref r1), (2, .ref r2), (3, vi x3), (4, vi x4), (5, vi x5), (6, vi y5), (7, vi y6)]) [2, 3, 4, 5, 6, 7, 1, 0] rfl ?_
          exact q_Hx_shared_b77 hnx r1 h_r1 r2 h_r2 x3 x4 x5 y5 y6 s hs hb he0
        · refine x_iconst dX11_shared_73 ?_
          refine w_goto dX11_shared_74 rfl ?_
          refine w_lv (lv' := [(0, .ref 0), (1, .ref r1), (2, .ref r2), (3, vi x3), (4, vi x4), (5, vi x5), (6, vi y5), (7, vi y6)]) [2, 3, 4, 5, 6, 7, 1, 0] rfl ?_
          exact q_Hx_shared_b78 hnx r1 h_r1 r2 h_r2 x3 x4 x5 y5 y6 1 s hs hb he0
set_option maxRecDepth 100000 in
theorem q_Hx_shared_l20 {C : Cx} {nx : Nat} (hnx : 80 ≤ nx) (r1 : Nat) (h_r1 : isPaths r1) (r2 : Nat) (h_r2 : isPaths r2) (x3 : Int) (x4 : Int) (x5 : Int) (s : Sg) {o : Int × Sg} (hs : Hx_shared_l20 r1 r2 x3 x4 x5 s = some o) : ww C M_X11_shared 5 0 0 nx (QI nx o.2 o.1) (XF) nx 0 0 20 [(0, .ref 0), (1, .ref r1), (2, .ref r2), (3, vi x3), (4, vi x4), (5, vi x5)] [] (hp nx s) := by
  unfold Hx_shared_l20 at hs
  refine bnd_e hs (fun x3_9 hw hs => ?_)
  have hE : ww C M_X11_shared 5 0 0 nx (QI nx o.2 o.1) (XF) nx 0 0 116 [(3, vi x3_9)] [] (hp nx s) := by
    refine w_iload_n 0 dX11_shared_116 rfl rfl ?_
    cases hs
    exact x_ireturn dX11_shared_117 rfl rfl (Nat.le_of_ble_eq_true rfl) (Nat.le_of_ble_eq_true rfl) ⟨rfl, rfl⟩
  refine whl_w (P := fun σ => ww C M_X11_shared 5 0 0 nx (QI nx o.2 o.1) (XF) nx 0 0 20 [(0, .ref 0), (1, .ref r1), (2, .ref r2), (3, vi σ.1), (4, vi σ.2.1), (5, vi σ.2.2)] [] (hp nx s)) (E := fun ρ => ρ = x3_9) hw rfl ?_
  intro σ o' hs' hb' he'
  exact q_Hx_shared_t20 hnx r1 h_r1 r2 h_r2 σ.1 σ.2.1 σ.2.2 s hs' hb' (fun ρ e => by cases he' _ e; exact hE)
set_option maxRecDepth 100000 in
theorem c_Hx_shared {C : Cx} {nx : Nat} (hnx : 80 ≤ nx)  (s : Sg) : ∀ o, Hx_shared  s = some o → mm C M_X11_shared 5 0 0 nx nx [.ref 0] (hp nx s) (QI nx o.2 o.1) (XF) := by
  intro o hs
  unfold Hx_shared at hs
  refine mm_of rfl rfl (Nat.le_of_ble_eq_true rfl) ?_
  show ww C M_X11_shared 5 0 0 nx (QI nx o.2 o.1) (XF) nx 0 0 0 [(0, .ref 0)] [] (hp nx s)
  refine w_aload_n 0 dX11_shared_0 rfl rfl ?_
  refine x_iconst dX11_shared_1 ?_
  refine x_V_A M_X11_pathsOf [vi 0] [] hs rfl dX11_shared_2 (lkX11_265 _ rfl) (lt_of hnx (Nat.le_of_ble_eq_true rfl)) rfl rfl (Nat.le_of_ble_eq_true rfl) (Nat.le_of_ble_eq_true rfl) (Nat.le_of_ble_eq_true rfl) (Nat.le_of_ble_eq_true rfl) (c_Hx_pathsOf hnx 0 s) (fun y1 s2 hy1 hs => ?_)
  have h_y1 := p_Hx_pathsOf hy1
  refine w_astore_n (lv' := [(1, .ref y1), (0, .ref 0)]) dX11_shared_5 rfl (Nat.le_of_ble_eq_true rfl) rfl ?_
  refine w_aload_n 1 dX11_shared_6 rfl rfl ?_
  refine x_iconst dX11_shared_7 ?_
  refine x_V_A M_X11_pathsOf [vi 1] [] hs rfl dX11_shared_8 (lkX11_265 _ rfl) (lt_of hnx (Nat.le_of_ble_eq_true rfl)) rfl rfl (Nat.le_of_ble_eq_true rfl) (Nat.le_of_ble_eq_true rfl) (Nat.le_of_ble_eq_true rfl) (Nat.le_of_ble_eq_true rfl) (c_Hx_pathsOf hnx 1 s2) (fun y3 s4 hy3 hs => ?_)
  have h_y3 := p_Hx_pathsOf hy3
  refine w_astore_n (lv' := [(2, .ref y3), (1, .ref y1), (0, .ref 0)]) dX11_shared_11 rfl (Nat.le_of_ble_eq_true rfl) rfl ?_
  refine x_iconst dX11_shared_12 ?_
  refine w_istore_n (lv' := [(3, vi (-1)), (2, .ref y3), (1, .ref y1), (0, .ref 0)]) dX11_shared_13 rfl (Nat.le_of_ble_eq_true rfl) rfl ?_
  refine x_iconst dX11_shared_14 ?_
  refine w_istore (lv' := [(4, vi 0), (3, vi (-1)), (2, .ref y3), (1, .ref y1), (0, .ref 0)]) dX11_shared_15 (Nat.le_of_ble_eq_true rfl) rfl ?_
  refine x_iconst dX11_shared_17 ?_
  refine w_istore (lv' := [(5, vi 0), (4, vi 0), (3, vi (-1)), (2, .ref y3), (1, .ref y1), (0, .ref 0)]) dX11_shared_18 (Nat.le_of_ble_eq_true rfl) rfl ?_
  refine w_lv (lv' := [(0, .ref 0), (1, .ref y1), (2, .ref y3), (3, vi (-1)), (4, vi 0), (5, vi 0)]) [5, 4, 3, 2, 1, 0] rfl ?_
  exact q_Hx_shared_l20 hnx y1 h_y1 y3 h_y3 (-1) 0 0 s4 hs
set_option maxRecDepth 100000 in
theorem q_Fl_nextLevel_b112 {C : Cx} {nx : Nat} (hnx : 80 ≤ nx) {Qr : Option Value → Hp → Prop} {Qx : String → Hp → Prop}  (x1 : Int) (x3 : Int) (x4 : Int) (x5 : Int) (s : Sg) {o : ((Int × Int × Int) ⊕ (Int × Int))} (hs : Fl_nextLevel_b112 x1 x3 x4 x5 s = some o) (hb : ∀ σ : Int × Int × Int, o = .inl σ → ww C M_X4_nextLevel 1 0 0 nx (Qr) (Qx) nx 0 0 39 [(0, .ref 71), (1, vi x1), (3, vi σ.1), (4, vi σ.2.1), (5, vi σ.2.2)] [] (hp nx s)) (he0 : ∀ ρ : Int × Int, o = .inr ρ → ww C M_X4_nextLevel 1 0 0 nx (Qr) (Qx) nx 0 0 118 [(0, .ref 71), (1, vi x1), (3, vi ρ.1), (4, vi ρ.2)] [] (hp nx s)) : ww C M_X4_nextLevel 1 0 0 nx (Qr) (Qx) nx 0 0 112 [(0, .ref 71), (1, vi x1), (3, vi x3), (4, vi x4), (5, vi x5)] [] (hp nx s) := by
  unfold Fl_nextLevel_b112 at hs
  refine x_iinc (lv' := [(5, vi (x5 + 1)), (0, .ref 71), (1, vi x1), (3, vi x3), (4, vi x4)]) 4 dX4_nextLevel_112 rfl (Nat.le_of_ble_eq_true rfl) rfl ?_
  refine w_goto dX4_nextLevel_115 rfl ?_
  refine w_lv (lv' := [(0, .ref 71), (1, vi x1), (3, vi x3), (4, vi x4), (5, vi (x5 + 1))]) [1, 2, 3, 4, 0] rfl ?_
  cases hs
  exact hb _ rfl
set_option maxRecDepth 100000 in
theorem q_Fl_nextLevel_t39 {C : Cx} {nx : Nat} (hnx : 80 ≤ nx) {Qr : Option Value → Hp → Prop} {Qx : String → Hp → Prop}  (x1 : Int) (x3 : Int) (x4 : Int) (x5 : Int) (s : Sg) {o : ((Int × Int × Int) ⊕ (Int × Int))} (hs : Fl_nextLevel_t39 x1 x3 x4 x5 s = some o) (hb : ∀ σ : Int × Int × Int, o = .inl σ → ww C M_X4_nextLevel 1 0 0 nx (Qr) (Qx) nx 0 0 39 [(0, .ref 71), (1, vi x1), (3, vi σ.1), (4, vi σ.2.1), (5, vi σ.2.2)] [] (hp nx s)) (he0 : ∀ ρ : Int × Int, o = .inr ρ → ww C M_X4_nextLevel 1 0 0 nx (Qr) (Qx) nx 0 0 118 [(0, .ref 71), (1, vi x1), (3, vi ρ.1), (4, vi ρ.2)] [] (hp nx s)) : ww C M_X4_nextLevel 1 0 0 nx (Qr) (Qx) nx 0 0 39 [(0, .ref 71), (1, vi x1), (3, vi x3), (4, vi x4), (5, vi x5)] [] (hp nx s) := by
  unfold Fl_nextLevel_t39 at hs
  refine w_iload 4 dX4_nextLevel_39 rfl ?_
  refine x_bipush dX4_nextLevel_41 (by decide) ?_
  refine x_icmpge hs dX4_nextLevel_43 rfl (fun hs => ?_) (fun hs => ?_)
  · refine w_lv (lv' := [(0, .ref 71), (1, vi x1), (3, vi x3), (4, vi x4)]) [0, 1, 2, 3] rfl ?_
    cases hs
    exact he0 _ rfl
  · refine w_aload_n 0 dX4_nextLevel_46 rfl rfl ?_
    refine x_getR 4 0 (b := 1) dX4_nextLevel_47 (fxX4_9 rfl) rfl rfl (lt_of hnx (Nat.le_of_ble_eq_true rfl)) rfl ?_
    refine w_iload_n 1 dX4_nextLevel_50 rfl rfl ?_
    refine w_iload 4 dX4_nextLevel_51 rfl ?_
    refine x_V_I M_X5_near [vi x1, vi x5] [] hs rfl dX4_nextLevel_53 (lkX4_57 _ rfl) (lt_of hnx (Nat.le_of_ble_eq_true rfl)) rfl rfl (Nat.le_of_ble_eq_true rfl) (Nat.le_of_ble_eq_true rfl) (Nat.le_of_ble_eq_true rfl) (Nat.le_of_ble_eq_true rfl) (c_Gr_near hnx x1 x5 s) (fun y2 hy2 hs => ?_)
    refine w_istore (lv' := [(6, vi y2), (0, .ref 71), (1, vi x1), (3, vi x3), (4, vi x4), (5, vi x5)]) dX4_nextLevel_56 (Nat.le_of_ble_eq_true rfl) rfl ?_
    refine w_iload 0 dX4_nextLevel_58 rfl ?_
    refine x_iconst dX4_nextLevel_60 ?_
    refine x_icmpeq hs dX4_nextLevel_61 rfl (fun hs => ?_) (fun hs => ?_)
    · refine w_lv (lv' := [(0, .ref 71), (1, vi x1), (3, vi x3), (4, vi x4), (5, vi x5)]) [1, 2, 3, 4, 5] rfl ?_
      exact q_Fl_nextLevel_b112 hnx x1 x3 x4 x5 s hs hb he0
    · refine w_aload_n 1 dX4_nextLevel_64 rfl rfl ?_
      refine x_getR 4 1 (b := 72) dX4_nextLevel_65 (fxX4_15 rfl) rfl rfl (lt_of hnx (Nat.le_of_ble_eq_true rfl)) rfl ?_
      refine w_iload 0 dX4_nextLevel_68 rfl ?_
      refine x_N_I M_X11_at [.ref 72, vi y2] [] hs rfl dX4_nextLevel_70 (lkX4_31 _ rfl) (Nat.le_of_ble_eq_true rfl) (Nat.le_of_ble_eq_true rfl) (Nat.le_of_ble_eq_true rfl) (Nat.le_of_ble_eq_true rfl) (c_Hx_at hnx 72 (Or.inl (rowW_of rfl (lt_of hnx (Nat.le_of_ble_eq_true rfl)))) y2 s) (fun y3 hy3 hs => ?_)
      refine x_ifle hs dX4_nextLevel_73 rfl (fun hs => ?_) (fun hs => ?_)
      · refine w_lv (lv' := [(0, .ref 71), (1, vi x1), (3, vi x3), (4, vi x4), (5, vi x5)]) [1, 2, 3, 4, 5] rfl ?_
        exact q_Fl_nextLevel_b112 hnx x1 x3 x4 x5 s hs hb he0
      · refine w_iload_n 3 dX4_nextLevel_76 rfl rfl ?_
        refine w_aload_n 1 dX4_nextLevel_77 rfl rfl ?_
        refine x_getR 4 1 (b := 72) dX4_nextLevel_78 (fxX4_15 rfl) rfl rfl (lt_of hnx (Nat.le_of_ble_eq_true rfl)) rfl ?_
        refine w_iload 0 dX4_nextLevel_81 rfl ?_
        refine x_N_I M_X11_at [.ref 72, vi y2] [vi x3] hs rfl dX4_nextLevel_83 (lkX4_31 _ rfl) (Nat.le_of_ble_eq_true rfl) (Nat.le_of_ble_eq_true rfl) (Nat.le_of_ble_eq_true rfl) (Nat.le_of_ble_eq_true rfl) (c_Hx_at hnx 72 (Or.inl (rowW_of rfl (lt_of hnx (Nat.le_of_ble_eq_true rfl)))) y2 s) (fun y4 hy4 hs => ?_)
        refine x_iadd dX4_nextLevel_86 ?_
        refine x_istore_n (fun x3_5 => [(3, vi x3_5), (6, vi y2), (0, .ref 71), (1, vi x1), (4, vi x4), (5, vi x5)]) hs dX4_nextLevel_87 rfl (Nat.le_of_ble_eq_true rfl) (fun _ => rfl) (fun x3_5 hs => ?_)
        refine w_iload 4 dX4_nextLevel_88 rfl ?_
        refine w_aload_n 2 dX4_nextLevel_90 rfl rfl ?_
        refine x_getR 4 1 (b := 72) dX4_nextLevel_91 (fxX4_15 rfl) rfl rfl (lt_of hnx (Nat.le_of_ble_eq_true rfl)) rfl ?_
        refine w_iload 1 dX4_nextLevel_94 rfl ?_
        refine x_N_I M_X11_at [.ref 72, vi y2] [vi x4] hs rfl dX4_nextLevel_96 (lkX4_31 _ rfl) (Nat.le_of_ble_eq_true rfl) (Nat.le_of_ble_eq_true rfl) (Nat.le_of_ble_eq_true rfl) (Nat.le_of_ble_eq_true rfl) (c_Hx_at hnx 72 (Or.inl (rowW_of rfl (lt_of hnx (Nat.le_of_ble_eq_true rfl)))) y2 s) (fun y6 hy6 hs => ?_)
        refine w_aload_n 2 dX4_nextLevel_99 rfl rfl ?_
        refine x_getR 4 2 (b := 73) dX4_nextLevel_100 (fxX4_19 rfl) rfl rfl (lt_of hnx (Nat.le_of_ble_eq_true rfl)) rfl ?_
        refine w_iload 1 dX4_nextLevel_103 rfl ?_
        refine x_N_I M_X11_at [.ref 73, vi y2] [vi y6, vi x4] hs rfl dX4_nextLevel_105 (lkX4_31 _ rfl) (Nat.le_of_ble_eq_true rfl) (Nat.le_of_ble_eq_true rfl) (Nat.le_of_ble_eq_true rfl) (Nat.le_of_ble_eq_true rfl) (c_Hx_at hnx 73 (Or.inl (rowW_of rfl (lt_of hnx (Nat.le_of_ble_eq_true rfl)))) y2 s) (fun y7 hy7 hs => ?_)
        refine x_imul dX4_nextLevel_108 ?_
        refine x_iadd dX4_nextLevel_109 ?_
        refine x_istore (fun x4_8 => [(4, vi x4_8), (3, vi x3_5), (6, vi y2), (0, .ref 71), (1, vi x1), (5, vi x5)]) hs dX4_nextLevel_110 (Nat.le_of_ble_eq_true rfl) (fun _ => rfl) (fun x4_8 hs => ?_)
        refine w_lv (lv' := [(0, .ref 71), (1, vi x1), (3, vi x3_5), (4, vi x4_8), (5, vi x5)]) [3, 4, 1, 0, 5] rfl ?_
        exact q_Fl_nextLevel_b112 hnx x1 x3_5 x4_8 x5 s hs hb he0
set_option maxRecDepth 100000 in
theorem q_Fl_nextLevel_l39 {C : Cx} {nx : Nat} (hnx : 80 ≤ nx) (x1 : Int) (x3 : Int) (x4 : Int) (x5 : Int) (s : Sg) {o : Int} (hs : Fl_nextLevel_l39 x1 x3 x4 x5 s = some o) : ww C M_X4_nextLevel 1 0 0 nx (QI nx s o) (XF) nx 0 0 39 [(0, .ref 71), (1, vi x1), (3, vi x3), (4, vi x4), (5, vi x5)] [] (hp nx s) := by
  unfold Fl_nextLevel_l39 at hs
  refine bnd_e hs (fun ρ hw hs => ?_)
  obtain ⟨x3_9, x4_10⟩ := ρ
  have hE : ww C M_X4_nextLevel 1 0 0 nx (QI nx s o) (XF) nx 0 0 118 [(0, .ref 71), (1, vi x1), (3, vi x3_9), (4, vi x4_10)] [] (hp nx s) := by
    refine w_iload_n 2 dX4_nextLevel_118 rfl rfl ?_
    refine x_ifne hs dX4_nextLevel_119 rfl (fun hs => ?_) (fun hs => ?_)
    · refine w_iload 3 dX4_nextLevel_133 rfl ?_
      refine w_iload_n 2 dX4_nextLevel_135 rfl rfl ?_
      refine grd_e hs (fun hg11 hs => ?_)
      refine x_idiv dX4_nextLevel_136 hg11 ?_
      cases hs
      exact x_ireturn dX4_nextLevel_137 rfl rfl (Nat.le_of_ble_eq_true rfl) (Nat.le_of_ble_eq_true rfl) ⟨rfl, rfl⟩
    · refine w_aload_n 0 dX4_nextLevel_122 rfl rfl ?_
      refine x_getR 4 2 (b := 73) dX4_nextLevel_123 (fxX4_19 rfl) rfl rfl (lt_of hnx (Nat.le_of_ble_eq_true rfl)) rfl ?_
      refine w_iload_n 1 dX4_nextLevel_126 rfl rfl ?_
      refine x_N_I M_X11_at [.ref 73, vi x1] [] hs rfl dX4_nextLevel_127 (lkX4_31 _ rfl) (Nat.le_of_ble_eq_true rfl) (Nat.le_of_ble_eq_true rfl) (Nat.le_of_ble_eq_true rfl) (Nat.le_of_ble_eq_true rfl) (c_Hx_at hnx 73 (Or.inl (rowW_of rfl (lt_of hnx (Nat.le_of_ble_eq_true rfl)))) x1 s) (fun y12 hy12 hs => ?_)
      refine w_goto dX4_nextLevel_130 rfl ?_
      cases hs
      exact x_ireturn dX4_nextLevel_137 rfl rfl (Nat.le_of_ble_eq_true rfl) (Nat.le_of_ble_eq_true rfl) ⟨rfl, rfl⟩
  refine whl_w (P := fun σ => ww C M_X4_nextLevel 1 0 0 nx (QI nx s o) (XF) nx 0 0 39 [(0, .ref 71), (1, vi x1), (3, vi σ.1), (4, vi σ.2.1), (5, vi σ.2.2)] [] (hp nx s)) (E := fun ρ => ρ = (x3_9, x4_10)) hw rfl ?_
  intro σ o' hs' hb' he'
  exact q_Fl_nextLevel_t39 hnx x1 σ.1 σ.2.1 σ.2.2 s hs' hb' (fun ρ e => by cases he' _ e; exact hE)
set_option maxRecDepth 100000 in
theorem q_Fl_nextLevel_b34 {C : Cx} {nx : Nat} (hnx : 80 ≤ nx) (x1 : Int) (x3 : Int) (t0 : Int) (s : Sg) {o : Int} (hs : Fl_nextLevel_b34 x1 x3 t0 s = some o) : ww C M_X4_nextLevel 1 0 0 nx (QI nx s o) (XF) nx 0 0 34 [(0, .ref 71), (1, vi x1), (3, vi x3)] [vi t0] (hp nx s) := by
  unfold Fl_nextLevel_b34 at hs
  refine w_istore (lv' := [(4, vi t0), (0, .ref 71), (1, vi x1), (3, vi x3)]) dX4_nextLevel_34 (Nat.le_of_ble_eq_true rfl) rfl ?_
  refine x_iconst dX4_nextLevel_36 ?_
  refine w_istore (lv' := [(5, vi 0), (4, vi t0), (0, .ref 71), (1, vi x1), (3, vi x3)]) dX4_nextLevel_37 (Nat.le_of_ble_eq_true rfl) rfl ?_
  refine w_lv (lv' := [(0, .ref 71), (1, vi x1), (3, vi x3), (4, vi t0), (5, vi 0)]) [2, 3, 4, 1, 0] rfl ?_
  exact q_Fl_nextLevel_l39 hnx x1 x3 t0 0 s hs
set_option maxRecDepth 100000 in
theorem q_Fl_nextLevel_b22 {C : Cx} {nx : Nat} (hnx : 80 ≤ nx) (x1 : Int) (x2 : Int) (t0 : Int) (s : Sg) {o : Int} (hs : Fl_nextLevel_b22 x1 x2 t0 s = some o) : ww C M_X4_nextLevel 1 0 0 nx (QI nx s o) (XF) nx 0 0 22 [(0, .ref 71), (1, vi x1), (2, vi x2)] [vi t0] (hp nx s) := by
  unfold Fl_nextLevel_b22 at hs
  refine w_istore_n (lv' := [(3, vi t0), (0, .ref 71), (1, vi x1), (2, vi x2)]) dX4_nextLevel_22 rfl (Nat.le_of_ble_eq_true rfl) rfl ?_
  refine w_iload_n 3 dX4_nextLevel_23 rfl rfl ?_
  refine x_iconst dX4_nextLevel_24 ?_
  refine x_icmpne hs dX4_nextLevel_25 rfl (fun hs => ?_) (fun hs => ?_)
  · refine x_iconst dX4_nextLevel_33 ?_
    refine w_lv (lv' := [(0, .ref 71), (1, vi x1), (3, vi t0)]) [1, 2, 0] rfl ?_
    exact q_Fl_nextLevel_b34 hnx x1 t0 0 s hs
  · refine x_ldc 1000000 dX4_nextLevel_28 (csX4_56 rfl) ?_
    refine w_goto dX4_nextLevel_30 rfl ?_
    refine w_lv (lv' := [(0, .ref 71), (1, vi x1), (3, vi t0)]) [1, 2, 0] rfl ?_
    exact q_Fl_nextLevel_b34 hnx x1 t0 1000000 s hs
set_option maxRecDepth 100000 in
theorem c_Fl_nextLevel {C : Cx} {nx : Nat} (hnx : 80 ≤ nx) (x1 : Int) (s : Sg) : ∀ o, Fl_nextLevel x1 s = some o → mm C M_X4_nextLevel 1 0 0 nx nx [.ref 71, vi x1] (hp nx s) (QI nx s o) (XF) := by
  intro o hs
  unfold Fl_nextLevel at hs
  refine mm_of rfl rfl (Nat.le_of_ble_eq_true rfl) ?_
  show ww C M_X4_nextLevel 1 0 0 nx (QI nx s o) (XF) nx 0 0 0 [(0, .ref 71), (1, vi x1)] [] (hp nx s)
  refine w_aload_n 0 dX4_nextLevel_0 rfl rfl ?_
  refine x_getR 4 0 (b := 1) dX4_nextLevel_1 (fxX4_9 rfl) rfl rfl (lt_of hnx (Nat.le_of_ble_eq_true rfl)) rfl ?_
  refine w_iload_n 1 dX4_nextLevel_4 rfl rfl ?_
  refine w_aload_n 0 dX4_nextLevel_5 rfl rfl ?_
  refine x_getI 4 3 dX4_nextLevel_6 (fxX4_22 rfl) rfl rfl (lt_of hnx (Nat.le_of_ble_eq_true rfl)) ?_
  refine x_V_I M_X5_edges [vi x1, vi (gi s 71 3)] [] hs rfl dX4_nextLevel_9 (lkX4_52 _ rfl) (lt_of hnx (Nat.le_of_ble_eq_true rfl)) rfl rfl (Nat.le_of_ble_eq_true rfl) (Nat.le_of_ble_eq_true rfl) (Nat.le_of_ble_eq_true rfl) (Nat.le_of_ble_eq_true rfl) (c_Gr_edges hnx x1 (gi s 71 3) s) (fun y1 hy1 hs => ?_)
  refine w_istore_n (lv' := [(2, vi y1), (0, .ref 71), (1, vi x1)]) dX4_nextLevel_12 rfl (Nat.le_of_ble_eq_true rfl) rfl ?_
  refine w_iload_n 0 dX4_nextLevel_13 rfl rfl ?_
  refine x_ifne hs dX4_nextLevel_14 rfl (fun hs => ?_) (fun hs => ?_)
  · refine x_iconst dX4_nextLevel_21 ?_
    refine w_lv (lv' := [(0, .ref 71), (1, vi x1), (2, vi y1)]) [1, 2, 0] rfl ?_
    exact q_Fl_nextLevel_b22 hnx x1 y1 1 s hs
  · refine x_iconst dX4_nextLevel_17 ?_
    refine w_goto dX4_nextLevel_18 rfl ?_
    refine w_lv (lv' := [(0, .ref 71), (1, vi x1), (2, vi y1)]) [1, 2, 0] rfl ?_
    exact q_Fl_nextLevel_b22 hnx x1 y1 0 s hs
set_option maxRecDepth 100000 in
theorem q_Fl_sweep_b61 {C : Cx} {nx : Nat} (hnx : 80 ≤ nx) {Qr : Option Value → Hp → Prop} {Qx : String → Hp → Prop}  (x1 : Int) (x2 : Int) (s : Sg) {o : ((Int × Int × Sg) ⊕ (Int × Sg))} (hs : Fl_sweep_b61 x1 x2 s = some o) (hb : ∀ σ : Int × Int × Sg, o = .inl σ → ww C M_X4_sweep 2 0 0 nx (Qr) (Qx) nx 0 0 4 [(0, .ref 71), (1, vi σ.1), (2, vi σ.2.1)] [] (hp nx σ.2.2)) (he0 : ∀ ρ : Int × Sg, o = .inr ρ → ww C M_X4_sweep 2 0 0 nx (Qr) (Qx) nx 0 0 67 [(1, vi ρ.1)] [] (hp nx ρ.2)) : ww C M_X4_sweep 2 0 0 nx (Qr) (Qx) nx 0 0 61 [(0, .ref 71), (1, vi x1), (2, vi x2)] [] (hp nx s) := by
  unfold Fl_sweep_b61 at hs
  refine x_iinc (lv' := [(2, vi (x2 + 1)), (0, .ref 71), (1, vi x1)]) 2 dX4_sweep_61 rfl (Nat.le_of_ble_eq_true rfl) rfl ?_
  refine w_goto dX4_sweep_64 rfl ?_
  refine w_lv (lv' := [(0, .ref 71), (1, vi x1), (2, vi (x2 + 1))]) [1, 2, 0] rfl ?_
  cases hs
  exact hb _ rfl
set_option maxRecDepth 100000 in
theorem q_Fl_sweep_b50 {C : Cx} {nx : Nat} (hnx : 80 ≤ nx) {Qr : Option Value → Hp → Prop} {Qx : String → Hp → Prop}  (x2 : Int) (x3 : Int) (t0 : Int) (t1 : Int) (s : Sg) {o : ((Int × Int × Sg) ⊕ (Int × Sg))} (hs : Fl_sweep_b50 x2 x3 t0 t1 s = some o) (hb : ∀ σ : Int × Int × Sg, o = .inl σ → ww C M_X4_sweep 2 0 0 nx (Qr) (Qx) nx 0 0 4 [(0, .ref 71), (1, vi σ.1), (2, vi σ.2.1)] [] (hp nx σ.2.2)) (he0 : ∀ ρ : Int × Sg, o = .inr ρ → ww C M_X4_sweep 2 0 0 nx (Qr) (Qx) nx 0 0 67 [(1, vi ρ.1)] [] (hp nx ρ.2)) : ww C M_X4_sweep 2 0 0 nx (Qr) (Qx) nx 0 0 50 [(0, .ref 71), (2, vi x2), (3, vi x3)] [vi t1, vi t0] (hp nx s) := by
  unfold Fl_sweep_b50 at hs
  refine x_ior dX4_sweep_50 ?_
  refine x_istore_n (fun x1_4 => [(1, vi x1_4), (0, .ref 71), (2, vi x2), (3, vi x3)]) hs dX4_sweep_51 rfl (Nat.le_of_ble_eq_true rfl) (fun _ => rfl) (fun x1_4 hs => ?_)
  refine w_aload_n 1 dX4_sweep_52 rfl rfl ?_
  refine x_getR 4 2 (b := 73) dX4_sweep_53 (fxX4_19 rfl) rfl rfl (lt_of hnx (Nat.le_of_ble_eq_true rfl)) rfl ?_
  refine w_iload_n 2 dX4_sweep_56 rfl rfl ?_
  refine w_iload_n 3 dX4_sweep_57 rfl rfl ?_
  refine x_N_V M_X11_set [.ref 73, vi x2, vi x3] [] hs rfl dX4_sweep_58 (lkX4_35 _ rfl) (Nat.le_of_ble_eq_true rfl) (Nat.le_of_ble_eq_true rfl) (Nat.le_of_ble_eq_true rfl) (Nat.le_of_ble_eq_true rfl) (c_Hx_set hnx 73 (rowW_of rfl (lt_of hnx (Nat.le_of_ble_eq_true rfl))) x2 x3 s) (fun s6 hs6 hs => ?_)
  refine w_lv (lv' := [(0, .ref 71), (1, vi x1_4), (2, vi x2)]) [1, 0, 2] rfl ?_
  exact q_Fl_sweep_b61 hnx x1_4 x2 s6 hs hb he0
set_option maxRecDepth 100000 in
theorem q_Fl_sweep_t4 {C : Cx} {nx : Nat} (hnx : 80 ≤ nx) {Qr : Option Value → Hp → Prop} {Qx : String → Hp → Prop}  (x1 : Int) (x2 : Int) (s : Sg) {o : ((Int × Int × Sg) ⊕ (Int × Sg))} (hs : Fl_sweep_t4 x1 x2 s = some o) (hb : ∀ σ : Int × Int × Sg, o = .inl σ → ww C M_X4_sweep 2 0 0 nx (Qr) (Qx) nx 0 0 4 [(0, .ref 71), (1, vi σ.1), (2, vi σ.2.1)] [] (hp nx σ.2.2)) (he0 : ∀ ρ : Int × Sg, o = .inr ρ → ww C M_X4_sweep 2 0 0 nx (Qr) (Qx) nx 0 0 67 [(1, vi ρ.1)] [] (hp nx ρ.2)) : ww C M_X4_sweep 2 0 0 nx (Qr) (Qx) nx 0 0 4 [(0, .ref 71), (1, vi x1), (2, vi x2)] [] (hp nx s) := by
  unfold Fl_sweep_t4 at hs
  refine w_iload_n 2 dX4_sweep_4 rfl rfl ?_
  refine w_aload_n 0 dX4_sweep_5 rfl rfl ?_
  refine x_getR 4 0 (b := 1) dX4_sweep_6 (fxX4_9 rfl) rfl rfl (lt_of hnx (Nat.le_of_ble_eq_true rfl)) rfl ?_
  refine x_getI 5 4 dX4_sweep_9 (fxX4_26 rfl) rfl rfl (lt_of hnx (Nat.le_of_ble_eq_true rfl)) ?_
  refine x_icmpge hs dX4_sweep_12 rfl (fun hs => ?_) (fun hs => ?_)
  · refine w_lv (lv' := [(1, vi x1)]) [1] rfl ?_
    cases hs
    exact he0 _ rfl
  · refine w_aload_n 0 dX4_sweep_15 rfl rfl ?_
    refine x_getR 4 1 (b := 72) dX4_sweep_16 (fxX4_15 rfl) rfl rfl (lt_of hnx (Nat.le_of_ble_eq_true rfl)) rfl ?_
    refine w_iload_n 2 dX4_sweep_19 rfl rfl ?_
    refine x_N_I M_X11_at [.ref 72, vi x2] [] hs rfl dX4_sweep_20 (lkX4_31 _ rfl) (Nat.le_of_ble_eq_true rfl) (Nat.le_of_ble_eq_true rfl) (Nat.le_of_ble_eq_true rfl) (Nat.le_of_ble_eq_true rfl) (c_Hx_at hnx 72 (Or.inl (rowW_of rfl (lt_of hnx (Nat.le_of_ble_eq_true rfl)))) x2 s) (fun y1 hy1 hs => ?_)
    refine x_ifle hs dX4_sweep_23 rfl (fun hs => ?_) (fun hs => ?_)
    · exact q_Fl_sweep_b61 hnx x1 x2 s hs hb he0
    · refine w_aload_n 0 dX4_sweep_26 rfl rfl ?_
      refine w_iload_n 2 dX4_sweep_27 rfl rfl ?_
      refine x_V_I M_X4_nextLevel [vi x2] [] hs rfl dX4_sweep_28 (lkX4_48 _ rfl) (lt_of hnx (Nat.le_of_ble_eq_true rfl)) rfl rfl (Nat.le_of_ble_eq_true rfl) (Nat.le_of_ble_eq_true rfl) (Nat.le_of_ble_eq_true rfl) (Nat.le_of_ble_eq_true rfl) (c_Fl_nextLevel hnx x2 s) (fun y2 hy2 hs => ?_)
      refine w_istore_n (lv' := [(3, vi y2), (0, .ref 71), (1, vi x1), (2, vi x2)]) dX4_sweep_31 rfl (Nat.le_of_ble_eq_true rfl) rfl ?_
      refine w_iload_n 2 dX4_sweep_32 rfl rfl ?_
      refine w_iload_n 0 dX4_sweep_33 rfl rfl ?_
      refine w_aload_n 1 dX4_sweep_34 rfl rfl ?_
      refine x_getR 4 2 (b := 73) dX4_sweep_35 (fxX4_19 rfl) rfl rfl (lt_of hnx (Nat.le_of_ble_eq_true rfl)) rfl ?_
      refine w_iload_n 3 dX4_sweep_38 rfl rfl ?_
      refine x_N_I M_X11_at [.ref 73, vi x2] [vi y2, vi x1] hs rfl dX4_sweep_39 (lkX4_31 _ rfl) (Nat.le_of_ble_eq_true rfl) (Nat.le_of_ble_eq_true rfl) (Nat.le_of_ble_eq_true rfl) (Nat.le_of_ble_eq_true rfl) (c_Hx_at hnx 73 (Or.inl (rowW_of rfl (lt_of hnx (Nat.le_of_ble_eq_true rfl)))) x2 s) (fun y3 hy3 hs => ?_)
      refine x_icmpeq hs dX4_sweep_42 rfl (fun hs => ?_) (fun hs => ?_)
      · refine x_iconst dX4_sweep_49 ?_
        refine w_lv (lv' := [(0, .ref 71), (2, vi x2), (3, vi y2)]) [1, 3, 0] rfl ?_
        exact q_Fl_sweep_b50 hnx x2 y2 x1 0 s hs hb he0
      · refine x_iconst dX4_sweep_45 ?_
        refine w_goto dX4_sweep_46 rfl ?_
        refine w_lv (lv' := [(0, .ref 71), (2, vi x2), (3, vi y2)]) [1, 3, 0] rfl ?_
        exact q_Fl_sweep_b50 hnx x2 y2 x1 1 s hs hb he0
set_option maxRecDepth 100000 in
theorem q_Fl_sweep_l4 {C : Cx} {nx : Nat} (hnx : 80 ≤ nx) (x1 : Int) (x2 : Int) (s : Sg) {o : Int × Sg} (hs : Fl_sweep_l4 x1 x2 s = some o) : ww C M_X4_sweep 2 0 0 nx (QI nx o.2 o.1) (XF) nx 0 0 4 [(0, .ref 71), (1, vi x1), (2, vi x2)] [] (hp nx s) := by
  unfold Fl_sweep_l4 at hs
  refine bnd_e hs (fun ρ hw hs => ?_)
  obtain ⟨x1_7, s_8⟩ := ρ
  have hE : ww C M_X4_sweep 2 0 0 nx (QI nx o.2 o.1) (XF) nx 0 0 67 [(1, vi x1_7)] [] (hp nx s_8) := by
    refine w_iload_n 0 dX4_sweep_67 rfl rfl ?_
    refine grd_e hs (fun hg9 hs => ?_)
    cases hs
    exact x_zreturn hg9 dX4_sweep_68 rfl rfl (Nat.le_of_ble_eq_true rfl) (Nat.le_of_ble_eq_true rfl) ⟨rfl, rfl⟩
  refine whl_w (P := fun σ => ww C M_X4_sweep 2 0 0 nx (QI nx o.2 o.1) (XF) nx 0 0 4 [(0, .ref 71), (1, vi σ.1), (2, vi σ.2.1)] [] (hp nx σ.2.2)) (E := fun ρ => ρ = (x1_7, s_8)) hw rfl ?_
  intro σ o' hs' hb' he'
  exact q_Fl_sweep_t4 hnx σ.1 σ.2.1 σ.2.2 hs' hb' (fun ρ e => by cases he' _ e; exact hE)
set_option maxRecDepth 100000 in
theorem c_Fl_sweep {C : Cx} {nx : Nat} (hnx : 80 ≤ nx)  (s : Sg) : ∀ o, Fl_sweep  s = some o → mm C M_X4_sweep 2 0 0 nx nx [.ref 71] (hp nx s) (QI nx o.2 o.1) (XF) := by
  intro o hs
  unfold Fl_sweep at hs
  refine mm_of rfl rfl (Nat.le_of_ble_eq_true rfl) ?_
  show ww C M_X4_sweep 2 0 0 nx (QI nx o.2 o.1) (XF) nx 0 0 0 [(0, .ref 71)] [] (hp nx s)
  refine x_iconst dX4_sweep_0 ?_
  refine w_istore_n (lv' := [(1, vi 0), (0, .ref 71)]) dX4_sweep_1 rfl (Nat.le_of_ble_eq_true rfl) rfl ?_
  refine x_iconst dX4_sweep_2 ?_
  refine w_istore_n (lv' := [(2, vi 0), (1, vi 0), (0, .ref 71)]) dX4_sweep_3 rfl (Nat.le_of_ble_eq_true rfl) rfl ?_
  refine w_lv (lv' := [(0, .ref 71), (1, vi 0), (2, vi 0)]) [2, 1, 0] rfl ?_
  exact q_Fl_sweep_l4 hnx 0 0 s hs
set_option maxRecDepth 100000 in
theorem q_Fl_amount_b62 {C : Cx} {nx : Nat} (hnx : 80 ≤ nx) {Qr : Option Value → Hp → Prop} {Qx : String → Hp → Prop}  (x1 : Int) (x2 : Int) (s : Sg) {o : ((Int × Int) ⊕ (Int))} (hs : Fl_amount_b62 x1 x2 s = some o) (hb : ∀ σ : Int × Int, o = .inl σ → ww C M_X4_amount 1 0 0 nx (Qr) (Qx) nx 0 0 4 [(0, .ref 71), (1, vi σ.1), (2, vi σ.2)] [] (hp nx s)) (he0 : ∀ ρ : Int, o = .inr ρ → ww C M_X4_amount 1 0 0 nx (Qr) (Qx) nx 0 0 68 [(1, vi ρ)] [] (hp nx s)) : ww C M_X4_amount 1 0 0 nx (Qr) (Qx) nx 0 0 62 [(0, .ref 71), (1, vi x1), (2, vi x2)] [] (hp nx s) := by
  unfold Fl_amount_b62 at hs
  refine x_iinc (lv' := [(2, vi (x2 + 1)), (0, .ref 71), (1, vi x1)]) 2 dX4_amount_62 rfl (Nat.le_of_ble_eq_true rfl) rfl ?_
  refine w_goto dX4_amount_65 rfl ?_
  refine w_lv (lv' := [(0, .ref 71), (1, vi x1), (2, vi (x2 + 1))]) [1, 2, 0] rfl ?_
  cases hs
  exact hb _ rfl
set_option maxRecDepth 100000 in
theorem q_Fl_amount_t4 {C : Cx} {nx : Nat} (hnx : 80 ≤ nx) {Qr : Option Value → Hp → Prop} {Qx : String → Hp → Prop}  (x1 : Int) (x2 : Int) (s : Sg) {o : ((Int × Int) ⊕ (Int))} (hs : Fl_amount_t4 x1 x2 s = some o) (hb : ∀ σ : Int × Int, o = .inl σ → ww C M_X4_amount 1 0 0 nx (Qr) (Qx) nx 0 0 4 [(0, .ref 71), (1, vi σ.1), (2, vi σ.2)] [] (hp nx s)) (he0 : ∀ ρ : Int, o = .inr ρ → ww C M_X4_amount 1 0 0 nx (Qr) (Qx) nx 0 0 68 [(1, vi ρ)] [] (hp nx s)) : ww C M_X4_amount 1 0 0 nx (Qr) (Qx) nx 0 0 4 [(0, .ref 71), (1, vi x1), (2, vi x2)] [] (hp nx s) := by
  unfold Fl_amount_t4 at hs
  refine w_iload_n 2 dX4_amount_4 rfl rfl ?_
  refine w_aload_n 0 dX4_amount_5 rfl rfl ?_
  refine x_getR 4 0 (b := 1) dX4_amount_6 (fxX4_9 rfl) rfl rfl (lt_of hnx (Nat.le_of_ble_eq_true rfl)) rfl ?_
  refine x_getI 5 4 dX4_amount_9 (fxX4_26 rfl) rfl rfl (lt_of hnx (Nat.le_of_ble_eq_true rfl)) ?_
  refine x_icmpge hs dX4_amount_12 rfl (fun hs => ?_) (fun hs => ?_)
  · refine w_lv (lv' := [(1, vi x1)]) [1] rfl ?_
    cases hs
    exact he0 _ rfl
  · refine w_aload_n 0 dX4_amount_15 rfl rfl ?_
    refine x_getR 4 0 (b := 1) dX4_amount_16 (fxX4_9 rfl) rfl rfl (lt_of hnx (Nat.le_of_ble_eq_true rfl)) rfl ?_
    refine w_iload_n 2 dX4_amount_19 rfl rfl ?_
    refine w_aload_n 0 dX4_amount_20 rfl rfl ?_
    refine x_getI 4 3 dX4_amount_21 (fxX4_22 rfl) rfl rfl (lt_of hnx (Nat.le_of_ble_eq_true rfl)) ?_
    refine x_V_I M_X5_edges [vi x2, vi (gi s 71 3)] [] hs rfl dX4_amount_24 (lkX4_52 _ rfl) (lt_of hnx (Nat.le_of_ble_eq_true rfl)) rfl rfl (Nat.le_of_ble_eq_true rfl) (Nat.le_of_ble_eq_true rfl) (Nat.le_of_ble_eq_true rfl) (Nat.le_of_ble_eq_true rfl) (c_Gr_edges hnx x2 (gi s 71 3) s) (fun y1 hy1 hs => ?_)
    refine x_iconst dX4_amount_27 ?_
    refine x_icmpne hs dX4_amount_28 rfl (fun hs => ?_) (fun hs => ?_)
    · exact q_Fl_amount_b62 hnx x1 x2 s hs hb he0
    · refine w_aload_n 0 dX4_amount_31 rfl rfl ?_
      refine x_getR 4 1 (b := 72) dX4_amount_32 (fxX4_15 rfl) rfl rfl (lt_of hnx (Nat.le_of_ble_eq_true rfl)) rfl ?_
      refine w_iload_n 2 dX4_amount_35 rfl rfl ?_
      refine x_N_I M_X11_at [.ref 72, vi x2] [] hs rfl dX4_amount_36 (lkX4_31 _ rfl) (Nat.le_of_ble_eq_true rfl) (Nat.le_of_ble_eq_true rfl) (Nat.le_of_ble_eq_true rfl) (Nat.le_of_ble_eq_true rfl) (c_Hx_at hnx 72 (Or.inl (rowW_of rfl (lt_of hnx (Nat.le_of_ble_eq_true rfl)))) x2 s) (fun y2 hy2 hs => ?_)
      refine x_ifle hs dX4_amount_39 rfl (fun hs => ?_) (fun hs => ?_)
      · exact q_Fl_amount_b62 hnx x1 x2 s hs hb he0
      · refine w_iload_n 1 dX4_amount_42 rfl rfl ?_
        refine w_aload_n 0 dX4_amount_43 rfl rfl ?_
        refine x_getR 4 1 (b := 72) dX4_amount_44 (fxX4_15 rfl) rfl rfl (lt_of hnx (Nat.le_of_ble_eq_true rfl)) rfl ?_
        refine w_iload_n 2 dX4_amount_47 rfl rfl ?_
        refine x_N_I M_X11_at [.ref 72, vi x2] [vi x1] hs rfl dX4_amount_48 (lkX4_31 _ rfl) (Nat.le_of_ble_eq_true rfl) (Nat.le_of_ble_eq_true rfl) (Nat.le_of_ble_eq_true rfl) (Nat.le_of_ble_eq_true rfl) (c_Hx_at hnx 72 (Or.inl (rowW_of rfl (lt_of hnx (Nat.le_of_ble_eq_true rfl)))) x2 s) (fun y3 hy3 hs => ?_)
        refine w_aload_n 0 dX4_amount_51 rfl rfl ?_
        refine x_getR 4 2 (b := 73) dX4_amount_52 (fxX4_19 rfl) rfl rfl (lt_of hnx (Nat.le_of_ble_eq_true rfl)) rfl ?_
        refine w_iload_n 2 dX4_amount_55 rfl rfl ?_
        refine x_N_I M_X11_at [.ref 73, vi x2] [vi y3, vi x1] hs rfl dX4_amount_56 (lkX4_31 _ rfl) (Nat.le_of_ble_eq_true rfl) (Nat.le_of_ble_eq_true rfl) (Nat.le_of_ble_eq_true rfl) (Nat.le_of_ble_eq_true rfl) (c_Hx_at hnx 73 (Or.inl (rowW_of rfl (lt_of hnx (Nat.le_of_ble_eq_true rfl)))) x2 s) (fun y4 hy4 hs => ?_)
        refine x_imul dX4_amount_59 ?_
        refine x_iadd dX4_amount_60 ?_
        refine x_istore_n (fun x1_5 => [(1, vi x1_5), (0, .ref 71), (2, vi x2)]) hs dX4_amount_61 rfl (Nat.le_of_ble_eq_true rfl) (fun _ => rfl) (fun x1_5 hs => ?_)
        refine w_lv (lv' := [(0, .ref 71), (1, vi x1_5), (2, vi x2)]) [1, 0, 2] rfl ?_
        exact q_Fl_amount_b62 hnx x1_5 x2 s hs hb he0
set_option maxRecDepth 100000 in
theorem q_Fl_amount_l4 {C : Cx} {nx : Nat} (hnx : 80 ≤ nx) (x1 : Int) (x2 : Int) (s : Sg) {o : Int} (hs : Fl_amount_l4 x1 x2 s = some o) : ww C M_X4_amount 1 0 0 nx (QI nx s o) (XF) nx 0 0 4 [(0, .ref 71), (1, vi x1), (2, vi x2)] [] (hp nx s) := by
  unfold Fl_amount_l4 at hs
  refine bnd_e hs (fun x1_6 hw hs => ?_)
  have hE : ww C M_X4_amount 1 0 0 nx (QI nx s o) (XF) nx 0 0 68 [(1, vi x1_6)] [] (hp nx s) := by
    refine w_iload_n 0 dX4_amount_68 rfl rfl ?_
    cases hs
    exact x_ireturn dX4_amount_69 rfl rfl (Nat.le_of_ble_eq_true rfl) (Nat.le_of_ble_eq_true rfl) ⟨rfl, rfl⟩
  refine whl_w (P := fun σ => ww C M_X4_amount 1 0 0 nx (QI nx s o) (XF) nx 0 0 4 [(0, .ref 71), (1, vi σ.1), (2, vi σ.2)] [] (hp nx s)) (E := fun ρ => ρ = x1_6) hw rfl ?_
  intro σ o' hs' hb' he'
  exact q_Fl_amount_t4 hnx σ.1 σ.2 s hs' hb' (fun ρ e => by cases he' _ e; exact hE)
set_option maxRecDepth 100000 in
theorem c_Fl_amount {C : Cx} {nx : Nat} (hnx : 80 ≤ nx)  (s : Sg) : ∀ o, Fl_amount  s = some o → mm C M_X4_amount 1 0 0 nx nx [.ref 71] (hp nx s) (QI nx s o) (XF) := by
  intro o hs
  unfold Fl_amount at hs
  refine mm_of rfl rfl (Nat.le_of_ble_eq_true rfl) ?_
  show ww C M_X4_amount 1 0 0 nx (QI nx s o) (XF) nx 0 0 0 [(0, .ref 71)] [] (hp nx s)
  refine x_iconst dX4_amount_0 ?_
  refine w_istore_n (lv' := [(1, vi 0), (0, .ref 71)]) dX4_amount_1 rfl (Nat.le_of_ble_eq_true rfl) rfl ?_
  refine x_iconst dX4_amount_2 ?_
  refine w_istore_n (lv' := [(2, vi 0), (1, vi 0), (0, .ref 71)]) dX4_amount_3 rfl (Nat.le_of_ble_eq_true rfl) rfl ?_
  refine w_lv (lv' := [(0, .ref 71), (1, vi 0), (2, vi 0)]) [2, 1, 0] rfl ?_
  exact q_Fl_amount_l4 hnx 0 0 s hs
set_option maxRecDepth 100000 in
theorem q_Fl_run_b82 {C : Cx} {nx : Nat} (hnx : 80 ≤ nx) {Qr : Option Value → Hp → Prop} {Qx : String → Hp → Prop}  (r1 : Nat) (h_r1 : isRow nx r1) (x3 : Int) (x4 : Int) (t1 : Int) (t2 : Int) (s : Sg) {o : ((Int × Sg) ⊕ (Sg))} (hs : Fl_run_b82 r1 x3 x4 t1 t2 s = some o) (hb : ∀ σ : Int × Sg, o = .inl σ → ww C M_X4_run 3 0 0 nx (Qr) (Qx) nx 0 0 8 [(0, .ref 71), (1, .ref r1), (3, vi x3), (4, vi σ.1)] [] (hp nx σ.2)) (he0 : ∀ ρ : Sg, o = .inr ρ → ww C M_X4_run 3 0 0 nx (Qr) (Qx) nx 0 0 91 [(0, .ref 71), (3, vi x3)] [] (hp nx ρ)) : ww C M_X4_run 3 0 0 nx (Qr) (Qx) nx 0 0 82 [(0, .ref 71), (1, .ref r1), (3, vi x3), (4, vi x4)] [vi t2, vi t1, .ref 73] (hp nx s) := by
  unfold Fl_run_b82 at hs
  refine x_N_V M_X11_set [.ref 73, vi t1, vi t2] [] hs rfl dX4_run_82 (lkX4_35 _ rfl) (Nat.le_of_ble_eq_true rfl) (Nat.le_of_ble_eq_true rfl) (Nat.le_of_ble_eq_true rfl) (Nat.le_of_ble_eq_true rfl) (c_Hx_set hnx 73 (rowW_of rfl (lt_of hnx (Nat.le_of_ble_eq_true rfl))) t1 t2 s) (fun s6 hs6 hs => ?_)
  refine x_iinc (lv' := [(4, vi (x4 + 1)), (0, .ref 71), (1, .ref r1), (3, vi x3)]) 3 dX4_run_85 rfl (Nat.le_of_ble_eq_true rfl) rfl ?_
  refine w_goto dX4_run_88 rfl ?_
  refine w_lv (lv' := [(0, .ref 71), (1, .ref r1), (3, vi x3), (4, vi (x4 + 1))]) [1, 2, 3, 0] rfl ?_
  cases hs
  exact hb _ rfl
set_option maxRecDepth 100000 in
theorem q_Fl_run_b52 {C : Cx} {nx : Nat} (hnx : 80 ≤ nx) {Qr : Option Value → Hp → Prop} {Qx : String → Hp → Prop}  (r1 : Nat) (h_r1 : isRow nx r1) (x3 : Int) (x4 : Int) (t0 : Int) (s : Sg) {o : ((Int × Sg) ⊕ (Sg))} (hs : Fl_run_b52 r1 x3 x4 t0 s = some o) (hb : ∀ σ : Int × Sg, o = .inl σ → ww C M_X4_run 3 0 0 nx (Qr) (Qx) nx 0 0 8 [(0, .ref 71), (1, .ref r1), (3, vi x3), (4, vi σ.1)] [] (hp nx σ.2)) (he0 : ∀ ρ : Sg, o = .inr ρ → ww C M_X4_run 3 0 0 nx (Qr) (Qx) nx 0 0 91 [(0, .ref 71), (3, vi x3)] [] (hp nx ρ)) : ww C M_X4_run 3 0 0 nx (Qr) (Qx) nx 0 0 52 [(0, .ref 71), (1, .ref r1), (3, vi x3), (4, vi x4)] [vi t0] (hp nx s) := by
  unfold Fl_run_b52 at hs
  refine w_istore (lv' := [(6, vi t0), (0, .ref 71), (1, .ref r1), (3, vi x3), (4, vi x4)]) dX4_run_52 (Nat.le_of_ble_eq_true rfl) rfl ?_
  refine w_aload_n 1 dX4_run_54 rfl rfl ?_
  refine x_getR 4 1 (b := 72) dX4_run_55 (fxX4_15 rfl) rfl rfl (lt_of hnx (Nat.le_of_ble_eq_true rfl)) rfl ?_
  refine w_iload 4 dX4_run_58 rfl ?_
  refine w_iload 0 dX4_run_60 rfl ?_
  refine x_N_V M_X11_set [.ref 72, vi x4, vi t0] [] hs rfl dX4_run_62 (lkX4_35 _ rfl) (Nat.le_of_ble_eq_true rfl) (Nat.le_of_ble_eq_true rfl) (Nat.le_of_ble_eq_true rfl) (Nat.le_of_ble_eq_true rfl) (c_Hx_set hnx 72 (rowW_of rfl (lt_of hnx (Nat.le_of_ble_eq_true rfl))) x4 t0 s) (fun s4 hs4 hs => ?_)
  refine w_aload_n 1 dX4_run_65 rfl rfl ?_
  refine x_getR 4 2 (b := 73) dX4_run_66 (fxX4_19 rfl) rfl rfl (lt_of hnx (Nat.le_of_ble_eq_true rfl)) rfl ?_
  refine w_iload 4 dX4_run_69 rfl ?_
  refine w_iload 0 dX4_run_71 rfl ?_
  refine x_ifne hs dX4_run_73 rfl (fun hs => ?_) (fun hs => ?_)
  · refine x_ldc 500000 dX4_run_80 (csX4_39 rfl) ?_
    refine w_lv (lv' := [(0, .ref 71), (1, .ref r1), (3, vi x3), (4, vi x4)]) [1, 2, 3, 4] rfl ?_
    exact q_Fl_run_b82 hnx r1 h_r1 x3 x4 x4 500000 s4 hs hb he0
  · refine x_iconst dX4_run_76 ?_
    refine w_goto dX4_run_77 rfl ?_
    refine w_lv (lv' := [(0, .ref 71), (1, .ref r1), (3, vi x3), (4, vi x4)]) [1, 2, 3, 4] rfl ?_
    exact q_Fl_run_b82 hnx r1 h_r1 x3 x4 x4 (-1) s4 hs hb he0
set_option maxRecDepth 100000 in
theorem q_Fl_run_t8 {C : Cx} {nx : Nat} (hnx : 80 ≤ nx) {Qr : Option Value → Hp → Prop} {Qx : String → Hp → Prop}  (r1 : Nat) (h_r1 : isRow nx r1) (x3 : Int) (x4 : Int) (s : Sg) {o : ((Int × Sg) ⊕ (Sg))} (hs : Fl_run_t8 r1 x3 x4 s = some o) (hb : ∀ σ : Int × Sg, o = .inl σ → ww C M_X4_run 3 0 0 nx (Qr) (Qx) nx 0 0 8 [(0, .ref 71), (1, .ref r1), (3, vi x3), (4, vi σ.1)] [] (hp nx σ.2)) (he0 : ∀ ρ : Sg, o = .inr ρ → ww C M_X4_run 3 0 0 nx (Qr) (Qx) nx 0 0 91 [(0, .ref 71), (3, vi x3)] [] (hp nx ρ)) : ww C M_X4_run 3 0 0 nx (Qr) (Qx) nx 0 0 8 [(0, .ref 71), (1, .ref r1), (3, vi x3), (4, vi x4)] [] (hp nx s) := by
  unfold Fl_run_t8 at hs
  refine w_iload 3 dX4_run_8 rfl ?_
  refine w_aload_n 0 dX4_run_10 rfl rfl ?_
  refine x_getR 4 0 (b := 1) dX4_run_11 (fxX4_9 rfl) rfl rfl (lt_of hnx (Nat.le_of_ble_eq_true rfl)) rfl ?_
  refine x_getI 5 4 dX4_run_14 (fxX4_26 rfl) rfl rfl (lt_of hnx (Nat.le_of_ble_eq_true rfl)) ?_
  refine x_icmpge hs dX4_run_17 rfl (fun hs => ?_) (fun hs => ?_)
  · refine w_lv (lv' := [(0, .ref 71), (3, vi x3)]) [0, 2] rfl ?_
    cases hs
    exact he0 _ rfl
  · refine w_aload_n 1 dX4_run_20 rfl rfl ?_
    refine w_iload 3 dX4_run_21 rfl ?_
    refine x_N_I M_X11_at [.ref r1, vi x4] [] hs rfl dX4_run_23 (lkX4_31 _ rfl) (Nat.le_of_ble_eq_true rfl) (Nat.le_of_ble_eq_true rfl) (Nat.le_of_ble_eq_true rfl) (Nat.le_of_ble_eq_true rfl) (c_Hx_at hnx r1 h_r1 x4 s) (fun y2 hy2 hs => ?_)
    refine w_istore (lv' := [(5, vi y2), (0, .ref 71), (1, .ref r1), (3, vi x3), (4, vi x4)]) dX4_run_26 (Nat.le_of_ble_eq_true rfl) rfl ?_
    refine w_iload 0 dX4_run_28 rfl ?_
    refine x_iconst dX4_run_30 ?_
    refine x_icmpne hs dX4_run_31 rfl (fun hs => ?_) (fun hs => ?_)
    · refine w_iload 0 dX4_run_38 rfl ?_
      refine w_aload_n 1 dX4_run_40 rfl rfl ?_
      refine x_getI 4 3 dX4_run_41 (fxX4_22 rfl) rfl rfl (lt_of hnx (Nat.le_of_ble_eq_true rfl)) ?_
      refine x_icmpne hs dX4_run_44 rfl (fun hs => ?_) (fun hs => ?_)
      · refine x_iconst dX4_run_51 ?_
        refine w_lv (lv' := [(0, .ref 71), (1, .ref r1), (3, vi x3), (4, vi x4)]) [1, 2, 3, 4] rfl ?_
        exact q_Fl_run_b52 hnx r1 h_r1 x3 x4 0 s hs hb he0
      · refine x_iconst dX4_run_47 ?_
        refine w_goto dX4_run_48 rfl ?_
        refine w_lv (lv' := [(0, .ref 71), (1, .ref r1), (3, vi x3), (4, vi x4)]) [1, 2, 3, 4] rfl ?_
        exact q_Fl_run_b52 hnx r1 h_r1 x3 x4 3 s hs hb he0
    · refine x_iconst dX4_run_34 ?_
      refine w_goto dX4_run_35 rfl ?_
      refine w_lv (lv' := [(0, .ref 71), (1, .ref r1), (3, vi x3), (4, vi x4)]) [1, 2, 3, 4] rfl ?_
      exact q_Fl_run_b52 hnx r1 h_r1 x3 x4 1 s hs hb he0
set_option maxRecDepth 100000 in
theorem q_Fl_run_t97 {C : Cx} {nx : Nat} (hnx : 80 ≤ nx) {Qr : Option Value → Hp → Prop} {Qx : String → Hp → Prop}  (x3 : Int) (x4 : Int) (x5 : Int) (s : Sg) {o : ((Int × Int × Sg) ⊕ (Sg))} (hs : Fl_run_t97 x3 x4 x5 s = some o) (hb : ∀ σ : Int × Int × Sg, o = .inl σ → ww C M_X4_run 3 0 0 nx (Qr) (Qx) nx 0 0 97 [(0, .ref 71), (3, vi x3), (4, vi σ.1), (5, vi σ.2.1)] [] (hp nx σ.2.2)) (he0 : ∀ ρ : Sg, o = .inr ρ → ww C M_X4_run 3 0 0 nx (Qr) (Qx) nx 0 0 120 [(0, .ref 71)] [] (hp nx ρ)) : ww C M_X4_run 3 0 0 nx (Qr) (Qx) nx 0 0 97 [(0, .ref 71), (3, vi x3), (4, vi x4), (5, vi x5)] [] (hp nx s) := by
  unfold Fl_run_t97 at hs
  refine w_iload 3 dX4_run_97 rfl ?_
  refine w_iload_n 1 dX4_run_99 rfl rfl ?_
  refine x_icmpge hs dX4_run_100 rfl (fun hs => ?_) (fun hs => ?_)
  · refine w_lv (lv' := [(0, .ref 71)]) [0] rfl ?_
    cases hs
    exact he0 _ rfl
  · refine w_iload 2 dX4_run_103 rfl ?_
    refine x_ifeq hs dX4_run_105 rfl (fun hs => ?_) (fun hs => ?_)
    · refine w_lv (lv' := [(0, .ref 71)]) [0] rfl ?_
      cases hs
      exact he0 _ rfl
    · refine w_aload_n 0 dX4_run_108 rfl rfl ?_
      refine x_V_B M_X4_sweep [] [] hs rfl dX4_run_109 (lkX4_40 _ rfl) (lt_of hnx (Nat.le_of_ble_eq_true rfl)) rfl rfl (Nat.le_of_ble_eq_true rfl) (Nat.le_of_ble_eq_true rfl) (Nat.le_of_ble_eq_true rfl) (Nat.le_of_ble_eq_true rfl) (c_Fl_sweep hnx s) (fun y8 s9 hy8 hs => ?_)
      refine w_istore (lv' := [(4, vi y8), (0, .ref 71), (3, vi x3), (5, vi x5)]) dX4_run_112 (Nat.le_of_ble_eq_true rfl) rfl ?_
      refine x_iinc (lv' := [(5, vi (x5 + 1)), (4, vi y8), (0, .ref 71), (3, vi x3)]) 3 dX4_run_114 rfl (Nat.le_of_ble_eq_true rfl) rfl ?_
      refine w_goto dX4_run_117 rfl ?_
      refine w_lv (lv' := [(0, .ref 71), (3, vi x3), (4, vi y8), (5, vi (x5 + 1))]) [2, 3, 1, 0] rfl ?_
      cases hs
      exact hb _ rfl
set_option maxRecDepth 100000 in
theorem q_Fl_run_b120 {C : Cx} {nx : Nat} (hnx : 80 ≤ nx)  (s : Sg) {o : Int × Sg} (hs : Fl_run_b120  s = some o) : ww C M_X4_run 3 0 0 nx (QI nx o.2 o.1) (XF) nx 0 0 120 [(0, .ref 71)] [] (hp nx s) := by
  unfold Fl_run_b120 at hs
  refine w_aload_n 0 dX4_run_120 rfl rfl ?_
  refine x_V_I M_X4_amount [] [] hs rfl dX4_run_121 (lkX4_44 _ rfl) (lt_of hnx (Nat.le_of_ble_eq_true rfl)) rfl rfl (Nat.le_of_ble_eq_true rfl) (Nat.le_of_ble_eq_true rfl) (Nat.le_of_ble_eq_true rfl) (Nat.le_of_ble_eq_true rfl) (c_Fl_amount hnx s) (fun y11 hy11 hs => ?_)
  cases hs
  exact x_ireturn dX4_run_124 rfl rfl (Nat.le_of_ble_eq_true rfl) (Nat.le_of_ble_eq_true rfl) ⟨rfl, rfl⟩
set_option maxRecDepth 100000 in
theorem q_Fl_run_l97 {C : Cx} {nx : Nat} (hnx : 80 ≤ nx) (x3 : Int) (x4 : Int) (x5 : Int) (s : Sg) {o : Int × Sg} (hs : Fl_run_l97 x3 x4 x5 s = some o) : ww C M_X4_run 3 0 0 nx (QI nx o.2 o.1) (XF) nx 0 0 97 [(0, .ref 71), (3, vi x3), (4, vi x4), (5, vi x5)] [] (hp nx s) := by
  unfold Fl_run_l97 at hs
  refine bnd_e hs (fun s_10 hw hs => ?_)
  have hE : ww C M_X4_run 3 0 0 nx (QI nx o.2 o.1) (XF) nx 0 0 120 [(0, .ref 71)] [] (hp nx s_10) := by
    exact q_Fl_run_b120 hnx  s_10 hs
  refine whl_w (P := fun σ => ww C M_X4_run 3 0 0 nx (QI nx o.2 o.1) (XF) nx 0 0 97 [(0, .ref 71), (3, vi x3), (4, vi σ.1), (5, vi σ.2.1)] [] (hp nx σ.2.2)) (E := fun ρ => ρ = s_10) hw rfl ?_
  intro σ o' hs' hb' he'
  exact q_Fl_run_t97 hnx x3 σ.1 σ.2.1 σ.2.2 hs' hb' (fun ρ e => by cases he' _ e; exact hE)
set_option maxRecDepth 100000 in
theorem q_Fl_run_l8 {C : Cx} {nx : Nat} (hnx : 80 ≤ nx) (r1 : Nat) (h_r1 : isRow nx r1) (x3 : Int) (x4 : Int) (s : Sg) {o : Int × Sg} (hs : Fl_run_l8 r1 x3 x4 s = some o) : ww C M_X4_run 3 0 0 nx (QI nx o.2 o.1) (XF) nx 0 0 8 [(0, .ref 71), (1, .ref r1), (3, vi x3), (4, vi x4)] [] (hp nx s) := by
  unfold Fl_run_l8 at hs
  refine bnd_e hs (fun s_7 hw hs => ?_)
  have hE : ww C M_X4_run 3 0 0 nx (QI nx o.2 o.1) (XF) nx 0 0 91 [(0, .ref 71), (3, vi x3)] [] (hp nx s_7) := by
    refine x_iconst dX4_run_91 ?_
    refine w_istore (lv' := [(4, vi 1), (0, .ref 71), (3, vi x3)]) dX4_run_92 (Nat.le_of_ble_eq_true rfl) rfl ?_
    refine x_iconst dX4_run_94 ?_
    refine w_istore (lv' := [(5, vi 0), (4, vi 1), (0, .ref 71), (3, vi x3)]) dX4_run_95 (Nat.le_of_ble_eq_true rfl) rfl ?_
    refine w_lv (lv' := [(0, .ref 71), (3, vi x3), (4, vi 1), (5, vi 0)]) [2, 3, 1, 0] rfl ?_
    exact q_Fl_run_l97 hnx x3 1 0 s_7 hs
  refine whl_w (P := fun σ => ww C M_X4_run 3 0 0 nx (QI nx o.2 o.1) (XF) nx 0 0 8 [(0, .ref 71), (1, .ref r1), (3, vi x3), (4, vi σ.1)] [] (hp nx σ.2)) (E := fun ρ => ρ = s_7) hw rfl ?_
  intro σ o' hs' hb' he'
  exact q_Fl_run_t8 hnx r1 h_r1 x3 σ.1 σ.2 hs' hb' (fun ρ e => by cases he' _ e; exact hE)
set_option maxRecDepth 100000 in
theorem c_Fl_run {C : Cx} {nx : Nat} (hnx : 80 ≤ nx) (r1 : Nat) (h_r1 : isRow nx r1) (x2 : Int) (x3 : Int) (s : Sg) : ∀ o, Fl_run r1 x2 x3 s = some o → mm C M_X4_run 3 0 0 nx nx [.ref 71, .ref r1, vi x2, vi x3] (hp nx s) (QI nx o.2 o.1) (XF) := by
  intro o hs
  unfold Fl_run at hs
  refine mm_of rfl rfl (Nat.le_of_ble_eq_true rfl) ?_
  show ww C M_X4_run 3 0 0 nx (QI nx o.2 o.1) (XF) nx 0 0 0 [(0, .ref 71), (1, .ref r1), (2, vi x2), (3, vi x3)] [] (hp nx s)
  refine w_aload_n 0 dX4_run_0 rfl rfl ?_
  refine w_iload_n 2 dX4_run_1 rfl rfl ?_
  refine x_putI 4 3 dX4_run_2 (poX4_22 rfl) rfl rfl (lt_of hnx (Nat.le_of_ble_eq_true rfl)) ?_
  refine nam_s hs (fun s1 hs => ?_)
  refine x_iconst dX4_run_5 ?_
  refine w_istore (lv' := [(4, vi 0), (0, .ref 71), (1, .ref r1), (2, vi x2), (3, vi x3)]) dX4_run_6 (Nat.le_of_ble_eq_true rfl) rfl ?_
  refine w_lv (lv' := [(0, .ref 71), (1, .ref r1), (3, vi x3), (4, vi 0)]) [1, 2, 4, 0] rfl ?_
  exact q_Fl_run_l8 hnx r1 h_r1 x3 0 s1 hs
set_option maxRecDepth 100000 in
theorem c_Fl_level {C : Cx} {nx : Nat} (hnx : 80 ≤ nx) (x1 : Int) (s : Sg) : ∀ o, Fl_level x1 s = some o → mm C M_X4_level 1 0 0 nx nx [.ref 71, vi x1] (hp nx s) (QI nx s o) (XF) := by
  intro o hs
  unfold Fl_level at hs
  refine mm_of rfl rfl (Nat.le_of_ble_eq_true rfl) ?_
  show ww C M_X4_level 1 0 0 nx (QI nx s o) (XF) nx 0 0 0 [(0, .ref 71), (1, vi x1)] [] (hp nx s)
  refine w_aload_n 0 dX4_level_0 rfl rfl ?_
  refine x_getR 4 2 (b := 73) dX4_level_1 (fxX4_19 rfl) rfl rfl (lt_of hnx (Nat.le_of_ble_eq_true rfl)) rfl ?_
  refine w_iload_n 1 dX4_level_4 rfl rfl ?_
  refine x_N_I M_X11_at [.ref 73, vi x1] [] hs rfl dX4_level_5 (lkX4_31 _ rfl) (Nat.le_of_ble_eq_true rfl) (Nat.le_of_ble_eq_true rfl) (Nat.le_of_ble_eq_true rfl) (Nat.le_of_ble_eq_true rfl) (c_Hx_at hnx 73 (Or.inl (rowW_of rfl (lt_of hnx (Nat.le_of_ble_eq_true rfl)))) x1 s) (fun y1 hy1 hs => ?_)
  cases hs
  exact x_ireturn dX4_level_8 rfl rfl (Nat.le_of_ble_eq_true rfl) (Nat.le_of_ble_eq_true rfl) ⟨rfl, rfl⟩
set_option maxRecDepth 100000 in
theorem c_Hx_potential {C : Cx} {nx : Nat} (hnx : 80 ≤ nx) (hnK : KN ≤ nx) (x1 : Int) (x2 : Int) (x3 : Int) (s : Sg) : ∀ o, Hx_potential x1 x2 x3 s = some o → mm C M_X11_potential 10 3 18 nx nx [.ref 0, vi x1, vi x2, vi x3] (hp nx s) (QT nx o) (XT nx o) := by
  intro o hs
  unfold Hx_potential at hs
  refine mm_of rfl rfl (Nat.le_of_ble_eq_true rfl) ?_
  show ww C M_X11_potential 10 3 18 nx (QT nx o) (XT nx o) nx 0 0 0 [(0, .ref 0), (1, vi x1), (2, vi x2), (3, vi x3)] [] (hp nx s)
  refine w_iload_n 1 dX11_potential_0 rfl rfl ?_
  refine x_S_U M_X11_requireSide [vi x1] [] hs rfl dX11_potential_1 (lkX11_211 _ rfl) (Nat.le_of_ble_eq_true rfl) (Nat.le_of_ble_eq_true rfl) (Nat.le_of_ble_eq_true rfl) (Nat.le_of_ble_eq_true rfl) (c_Hx_requireSide hnx hnK x1 s) rfl (fun y1 s2 hy1 hs => ?_)
  refine w_iload_n 3 dX11_potential_4 rfl rfl ?_
  refine x_iconst dX11_potential_5 ?_
  refine x_bipush dX11_potential_6 (by decide) ?_
  refine x_S_U M_X11_requireRange [vi x3, vi 0, vi 100] [] hs rfl dX11_potential_8 (lkX11_190 _ rfl) (Nat.le_of_ble_eq_true rfl) (Nat.le_of_ble_eq_true rfl) (Nat.le_of_ble_eq_true rfl) (Nat.le_of_ble_eq_true rfl) (c_Hx_requireRange hnx hnK x3 0 100 s2) rfl (fun y3 s4 hy3 hs => ?_)
  refine w_aload_n 0 dX11_potential_11 rfl rfl ?_
  refine w_iload_n 2 dX11_potential_12 rfl rfl ?_
  refine x_V_U M_X11_requireCell [vi x2] [] hs rfl dX11_potential_13 (lkX11_180 _ rfl) (lt_of hnx (Nat.le_of_ble_eq_true rfl)) rfl rfl (Nat.le_of_ble_eq_true rfl) (Nat.le_of_ble_eq_true rfl) (Nat.le_of_ble_eq_true rfl) (Nat.le_of_ble_eq_true rfl) (c_Hx_requireCell hnx hnK x2 s4) rfl (fun y5 s6 hy5 hs => ?_)
  refine w_aload_n 0 dX11_potential_16 rfl rfl ?_
  refine x_getR 11 13 (b := 71) dX11_potential_17 (fxX11_89 rfl) rfl rfl (lt_of hnx (Nat.le_of_ble_eq_true rfl)) rfl ?_
  refine w_aload_n 0 dX11_potential_20 rfl rfl ?_
  refine x_getR 11 2 (b := 10) dX11_potential_21 (fxX11_28 rfl) rfl rfl (lt_of hnx (Nat.le_of_ble_eq_true rfl)) rfl ?_
  refine x_getR 9 0 (b := 11) dX11_potential_24 (fxX11_194 rfl) rfl rfl (lt_of hnx (Nat.le_of_ble_eq_true rfl)) rfl ?_
  refine w_iload_n 1 dX11_potential_27 rfl rfl ?_
  refine w_iload_n 3 dX11_potential_28 rfl rfl ?_
  refine x_V_B M_X4_run [.ref 11, vi x1, vi x3] [] hs rfl dX11_potential_29 (lkX11_278 _ rfl) (lt_of hnx (Nat.le_of_ble_eq_true rfl)) rfl rfl (Nat.le_of_ble_eq_true rfl) (Nat.le_of_ble_eq_true rfl) (Nat.le_of_ble_eq_true rfl) (Nat.le_of_ble_eq_true rfl) (c_Fl_run hnx 11 (Or.inl (rowW_of rfl (lt_of hnx (Nat.le_of_ble_eq_true rfl)))) x1 x3 s6) (fun y7 s8 hy7 hs => ?_)
  refine w_pop dX11_potential_32 rfl ?_
  refine w_aload_n 0 dX11_potential_33 rfl rfl ?_
  refine x_getR 11 13 (b := 71) dX11_potential_34 (fxX11_89 rfl) rfl rfl (lt_of hnx (Nat.le_of_ble_eq_true rfl)) rfl ?_
  refine w_iload_n 2 dX11_potential_37 rfl rfl ?_
  refine x_V_I M_X4_level [vi x2] [] hs rfl dX11_potential_38 (lkX11_282 _ rfl) (lt_of hnx (Nat.le_of_ble_eq_true rfl)) rfl rfl (Nat.le_of_ble_eq_true rfl) (Nat.le_of_ble_eq_true rfl) (Nat.le_of_ble_eq_true rfl) (Nat.le_of_ble_eq_true rfl) (c_Fl_level hnx x2 s8) (fun y9 hy9 hs => ?_)
  cases hs
  exact x_ireturn dX11_potential_41 rfl rfl (Nat.le_of_ble_eq_true rfl) (Nat.le_of_ble_eq_true rfl) ⟨_, rfl, rfl, rfl⟩
set_option maxRecDepth 100000 in
theorem c_Hx_current {C : Cx} {nx : Nat} (hnx : 80 ≤ nx) (hnK : KN ≤ nx) (x1 : Int) (x2 : Int) (s : Sg) : ∀ o, Hx_current x1 x2 s = some o → mm C M_X11_current 10 2 12 nx nx [.ref 0, vi x1, vi x2] (hp nx s) (QT nx o) (XT nx o) := by
  intro o hs
  unfold Hx_current at hs
  refine mm_of rfl rfl (Nat.le_of_ble_eq_true rfl) ?_
  show ww C M_X11_current 10 2 12 nx (QT nx o) (XT nx o) nx 0 0 0 [(0, .ref 0), (1, vi x1), (2, vi x2)] [] (hp nx s)
  refine w_iload_n 1 dX11_current_0 rfl rfl ?_
  refine x_S_U M_X11_requireSide [vi x1] [] hs rfl dX11_current_1 (lkX11_211 _ rfl) (Nat.le_of_ble_eq_true rfl) (Nat.le_of_ble_eq_true rfl) (Nat.le_of_ble_eq_true rfl) (Nat.le_of_ble_eq_true rfl) (c_Hx_requireSide hnx hnK x1 s) rfl (fun y1 s2 hy1 hs => ?_)
  refine w_iload_n 2 dX11_current_4 rfl rfl ?_
  refine x_iconst dX11_current_5 ?_
  refine x_bipush dX11_current_6 (by decide) ?_
  refine x_S_U M_X11_requireRange [vi x2, vi 0, vi 100] [] hs rfl dX11_current_8 (lkX11_190 _ rfl) (Nat.le_of_ble_eq_true rfl) (Nat.le_of_ble_eq_true rfl) (Nat.le_of_ble_eq_true rfl) (Nat.le_of_ble_eq_true rfl) (c_Hx_requireRange hnx hnK x2 0 100 s2) rfl (fun y3 s4 hy3 hs => ?_)
  refine w_aload_n 0 dX11_current_11 rfl rfl ?_
  refine x_getR 11 13 (b := 71) dX11_current_12 (fxX11_89 rfl) rfl rfl (lt_of hnx (Nat.le_of_ble_eq_true rfl)) rfl ?_
  refine w_aload_n 0 dX11_current_15 rfl rfl ?_
  refine x_getR 11 2 (b := 10) dX11_current_16 (fxX11_28 rfl) rfl rfl (lt_of hnx (Nat.le_of_ble_eq_true rfl)) rfl ?_
  refine x_getR 9 0 (b := 11) dX11_current_19 (fxX11_194 rfl) rfl rfl (lt_of hnx (Nat.le_of_ble_eq_true rfl)) rfl ?_
  refine w_iload_n 1 dX11_current_22 rfl rfl ?_
  refine w_iload_n 2 dX11_current_23 rfl rfl ?_
  refine x_V_B M_X4_run [.ref 11, vi x1, vi x2] [] hs rfl dX11_current_24 (lkX11_278 _ rfl) (lt_of hnx (Nat.le_of_ble_eq_true rfl)) rfl rfl (Nat.le_of_ble_eq_true rfl) (Nat.le_of_ble_eq_true rfl) (Nat.le_of_ble_eq_true rfl) (Nat.le_of_ble_eq_true rfl) (c_Fl_run hnx 11 (Or.inl (rowW_of rfl (lt_of hnx (Nat.le_of_ble_eq_true rfl)))) x1 x2 s4) (fun y5 s6 hy5 hs => ?_)
  cases hs
  exact x_ireturn dX11_current_27 rfl rfl (Nat.le_of_ble_eq_true rfl) (Nat.le_of_ble_eq_true rfl) ⟨_, rfl, rfl, rfl⟩
set_option maxRecDepth 100000 in
theorem c_Hx_resistance {C : Cx} {nx : Nat} (hnx : 80 ≤ nx) (hnK : KN ≤ nx) (x1 : Int) (x2 : Int) (s : Sg) : ∀ o, Hx_resistance x1 x2 s = some o → mm C M_X11_resistance 10 2 12 nx nx [.ref 0, vi x1, vi x2] (hp nx s) (QTF nx o) (XT nx o) := by
  intro o hs
  unfold Hx_resistance at hs
  refine mm_of rfl rfl (Nat.le_of_ble_eq_true rfl) ?_
  show ww C M_X11_resistance 10 2 12 nx (QTF nx o) (XT nx o) nx 0 0 0 [(0, .ref 0), (1, vi x1), (2, vi x2)] [] (hp nx s)
  refine w_iload_n 1 dX11_resistance_0 rfl rfl ?_
  refine x_S_U M_X11_requireSide [vi x1] [] hs rfl dX11_resistance_1 (lkX11_211 _ rfl) (Nat.le_of_ble_eq_true rfl) (Nat.le_of_ble_eq_true rfl) (Nat.le_of_ble_eq_true rfl) (Nat.le_of_ble_eq_true rfl) (c_Hx_requireSide hnx hnK x1 s) rfl (fun y1 s2 hy1 hs => ?_)
  refine w_iload_n 2 dX11_resistance_4 rfl rfl ?_
  refine x_iconst dX11_resistance_5 ?_
  refine x_bipush dX11_resistance_6 (by decide) ?_
  refine x_S_U M_X11_requireRange [vi x2, vi 0, vi 100] [] hs rfl dX11_resistance_8 (lkX11_190 _ rfl) (Nat.le_of_ble_eq_true rfl) (Nat.le_of_ble_eq_true rfl) (Nat.le_of_ble_eq_true rfl) (Nat.le_of_ble_eq_true rfl) (c_Hx_requireRange hnx hnK x2 0 100 s2) rfl (fun y3 s4 hy3 hs => ?_)
  refine w_aload_n 0 dX11_resistance_11 rfl rfl ?_
  refine x_getR 11 13 (b := 71) dX11_resistance_12 (fxX11_89 rfl) rfl rfl (lt_of hnx (Nat.le_of_ble_eq_true rfl)) rfl ?_
  refine w_aload_n 0 dX11_resistance_15 rfl rfl ?_
  refine x_getR 11 2 (b := 10) dX11_resistance_16 (fxX11_28 rfl) rfl rfl (lt_of hnx (Nat.le_of_ble_eq_true rfl)) rfl ?_
  refine x_getR 9 0 (b := 11) dX11_resistance_19 (fxX11_194 rfl) rfl rfl (lt_of hnx (Nat.le_of_ble_eq_true rfl)) rfl ?_
  refine w_iload_n 1 dX11_resistance_22 rfl rfl ?_
  refine w_iload_n 2 dX11_resistance_23 rfl rfl ?_
  refine x_V_B M_X4_run [.ref 11, vi x1, vi x2] [] hs rfl dX11_resistance_24 (lkX11_278 _ rfl) (lt_of hnx (Nat.le_of_ble_eq_true rfl)) rfl rfl (Nat.le_of_ble_eq_true rfl) (Nat.le_of_ble_eq_true rfl) (Nat.le_of_ble_eq_true rfl) (Nat.le_of_ble_eq_true rfl) (c_Fl_run hnx 11 (Or.inl (rowW_of rfl (lt_of hnx (Nat.le_of_ble_eq_true rfl)))) x1 x2 s4) (fun y5 s6 hy5 hs => ?_)
  refine w_istore_n (lv' := [(3, vi y5), (0, .ref 0), (1, vi x1), (2, vi x2)]) dX11_resistance_27 rfl (Nat.le_of_ble_eq_true rfl) rfl ?_
  refine w_iload_n 0 dX11_resistance_28 rfl rfl ?_
  refine x_ifne hs dX11_resistance_29 rfl (fun hs => ?_) (fun hs => ?_)
  · refine w_ldcfw 1232348160 dX11_resistance_36 (csX11_285 rfl) ?_
    refine w_iload_n 0 dX11_resistance_39 rfl rfl ?_
    refine w_i2f dX11_resistance_40 ?_
    refine grd_e hs (fun hg7 hs => ?_)
    refine w_fdiv dX11_resistance_41 hg7 ?_
    cases hs
    exact w_freturn rfl dX11_resistance_42 rfl (Nat.le_of_ble_eq_true rfl) (Nat.le_of_ble_eq_true rfl) ⟨_, rfl, rfl, rfl⟩
  · refine w_fconst0 dX11_resistance_32 ?_
    refine w_goto dX11_resistance_33 rfl ?_
    cases hs
    exact w_freturn rfl dX11_resistance_42 rfl (Nat.le_of_ble_eq_true rfl) (Nat.le_of_ble_eq_true rfl) ⟨_, rfl, rfl, rfl⟩
set_option maxRecDepth 100000 in
theorem c_Hx_balance {C : Cx} {nx : Nat} (hnx : 80 ≤ nx) (hnK : KN ≤ nx) (x1 : Int) (s : Sg) : ∀ o, Hx_balance x1 s = some o → mm C M_X11_balance 10 1 6 nx nx [.ref 0, vi x1] (hp nx s) (QTD nx o) (XT nx o) := by
  intro o hs
  unfold Hx_balance at hs
  refine mm_of rfl rfl (Nat.le_of_ble_eq_true rfl) ?_
  show ww C M_X11_balance 10 1 6 nx (QTD nx o) (XT nx o) nx 0 0 0 [(0, .ref 0), (1, vi x1)] [] (hp nx s)
  refine w_iload_n 1 dX11_balance_0 rfl rfl ?_
  refine x_iconst dX11_balance_1 ?_
  refine x_bipush dX11_balance_2 (by decide) ?_
  refine x_S_U M_X11_requireRange [vi x1, vi 0, vi 100] [] hs rfl dX11_balance_4 (lkX11_190 _ rfl) (Nat.le_of_ble_eq_true rfl) (Nat.le_of_ble_eq_true rfl) (Nat.le_of_ble_eq_true rfl) (Nat.le_of_ble_eq_true rfl) (c_Hx_requireRange hnx hnK x1 0 100 s) rfl (fun y1 s2 hy1 hs => ?_)
  refine w_aload_n 0 dX11_balance_7 rfl rfl ?_
  refine x_getR 11 13 (b := 71) dX11_balance_8 (fxX11_89 rfl) rfl rfl (lt_of hnx (Nat.le_of_ble_eq_true rfl)) rfl ?_
  refine w_aload_n 0 dX11_balance_11 rfl rfl ?_
  refine x_getR 11 2 (b := 10) dX11_balance_12 (fxX11_28 rfl) rfl rfl (lt_of hnx (Nat.le_of_ble_eq_true rfl)) rfl ?_
  refine x_getR 9 0 (b := 11) dX11_balance_15 (fxX11_194 rfl) rfl rfl (lt_of hnx (Nat.le_of_ble_eq_true rfl)) rfl ?_
  refine x_iconst dX11_balance_18 ?_
  refine w_iload_n 1 dX11_balance_19 rfl rfl ?_
  refine x_V_B M_X4_run [.ref 11, vi 0, vi x1] [] hs rfl dX11_balance_20 (lkX11_278 _ rfl) (lt_of hnx (Nat.le_of_ble_eq_true rfl)) rfl rfl (Nat.le_of_ble_eq_true rfl) (Nat.le_of_ble_eq_true rfl) (Nat.le_of_ble_eq_true rfl) (Nat.le_of_ble_eq_true rfl) (c_Fl_run hnx 11 (Or.inl (rowW_of rfl (lt_of hnx (Nat.le_of_ble_eq_true rfl)))) 0 x1 s2) (fun y3 s4 hy3 hs => ?_)
  refine w_istore_n (lv' := [(2, vi y3), (0, .ref 0), (1, vi x1)]) dX11_balance_23 rfl (Nat.le_of_ble_eq_true rfl) rfl ?_
  refine w_iload_n 0 dX11_balance_24 rfl rfl ?_
  refine w_aload_n 1 dX11_balance_25 rfl rfl ?_
  refine x_getR 11 13 (b := 71) dX11_balance_26 (fxX11_89 rfl) rfl rfl (lt_of hnx (Nat.le_of_ble_eq_true rfl)) rfl ?_
  refine w_aload_n 1 dX11_balance_29 rfl rfl ?_
  refine x_getR 11 2 (b := 10) dX11_balance_30 (fxX11_28 rfl) rfl rfl (lt_of hnx (Nat.le_of_ble_eq_true rfl)) rfl ?_
  refine x_getR 9 0 (b := 11) dX11_balance_33 (fxX11_194 rfl) rfl rfl (lt_of hnx (Nat.le_of_ble_eq_true rfl)) rfl ?_
  refine x_iconst dX11_balance_36 ?_
  refine w_iload_n 2 dX11_balance_37 rfl rfl ?_
  refine x_V_B M_X4_run [.ref 11, vi 1, vi x1] [vi y3] hs rfl dX11_balance_38 (lkX11_278 _ rfl) (lt_of hnx (Nat.le_of_ble_eq_true rfl)) rfl rfl (Nat.le_of_ble_eq_true rfl) (Nat.le_of_ble_eq_true rfl) (Nat.le_of_ble_eq_true rfl) (Nat.le_of_ble_eq_true rfl) (c_Fl_run hnx 11 (Or.inl (rowW_of rfl (lt_of hnx (Nat.le_of_ble_eq_true rfl)))) 1 x1 s4) (fun y5 s6 hy5 hs => ?_)
  refine x_iadd dX11_balance_41 ?_
  refine x_istore_n (fun x3_7 => [(3, vi x3_7), (2, vi y3), (0, .ref 0), (1, vi x1)]) hs dX11_balance_42 rfl (Nat.le_of_ble_eq_true rfl) (fun _ => rfl) (fun x3_7 hs => ?_)
  refine w_iload_n 0 dX11_balance_43 rfl rfl ?_
  refine x_ifne hs dX11_balance_44 rfl (fun hs => ?_) (fun hs => ?_)
  · refine w_iload_n 1 dX11_balance_53 rfl rfl ?_
    refine w_i2d dX11_balance_54 ?_
    refine w_iload_n 0 dX11_balance_55 rfl rfl ?_
    refine w_i2d dX11_balance_56 ?_
    refine grd_e hs (fun hg8 hs => ?_)
    refine w_ddiv dX11_balance_57 hg8 ?_
    cases hs
    exact w_dreturn rfl dX11_balance_58 rfl (Nat.le_of_ble_eq_true rfl) (Nat.le_of_ble_eq_true rfl) ⟨_, rfl, rfl, rfl⟩
  · refine w_ldc2d 4602678819172646912 dX11_balance_47 (csX11_286 rfl) ?_
    refine w_goto dX11_balance_50 rfl ?_
    cases hs
    exact w_dreturn rfl dX11_balance_58 rfl (Nat.le_of_ble_eq_true rfl) (Nat.le_of_ble_eq_true rfl) ⟨_, rfl, rfl, rfl⟩
set_option maxRecDepth 100000 in
theorem q_En_begin_b71 {C : Cx} {nx : Nat} (hnx : 80 ≤ nx) {Qr : Option Value → Hp → Prop} {Qx : String → Hp → Prop}  (r1 : Nat) (h_r1 : isRow nx r1) (x2 : Int) (s : Sg) {o : ((Int × Sg) ⊕ (Sg))} (hs : En_begin_b71 r1 x2 s = some o) (hb : ∀ σ : Int × Sg, o = .inl σ → ww C M_X2_begin 1 0 0 nx (Qr) (Qx) nx 0 0 7 [(0, .ref 74), (1, .ref r1), (2, vi σ.1)] [] (hp nx σ.2)) (he0 : ∀ ρ : Sg, o = .inr ρ → ww C M_X2_begin 1 0 0 nx (Qr) (Qx) nx 0 0 77 [(0, .ref 74)] [] (hp nx ρ)) : ww C M_X2_begin 1 0 0 nx (Qr) (Qx) nx 0 0 71 [(0, .ref 74), (1, .ref r1), (2, vi x2)] [] (hp nx s) := by
  unfold En_begin_b71 at hs
  refine x_iinc (lv' := [(2, vi (x2 + 1)), (0, .ref 74), (1, .ref r1)]) 2 dX2_begin_71 rfl (Nat.le_of_ble_eq_true rfl) rfl ?_
  refine w_goto dX2_begin_74 rfl ?_
  refine w_lv (lv' := [(0, .ref 74), (1, .ref r1), (2, vi (x2 + 1))]) [1, 2, 0] rfl ?_
  cases hs
  exact hb _ rfl
set_option maxRecDepth 100000 in
theorem q_En_begin_t7 {C : Cx} {nx : Nat} (hnx : 80 ≤ nx) {Qr : Option Value → Hp → Prop} {Qx : String → Hp → Prop}  (r1 : Nat) (h_r1 : isRow nx r1) (x2 : Int) (s : Sg) {o : ((Int × Sg) ⊕ (Sg))} (hs : En_begin_t7 r1 x2 s = some o) (hb : ∀ σ : Int × Sg, o = .inl σ → ww C M_X2_begin 1 0 0 nx (Qr) (Qx) nx 0 0 7 [(0, .ref 74), (1, .ref r1), (2, vi σ.1)] [] (hp nx σ.2)) (he0 : ∀ ρ : Sg, o = .inr ρ → ww C M_X2_begin 1 0 0 nx (Qr) (Qx) nx 0 0 77 [(0, .ref 74)] [] (hp nx ρ)) : ww C M_X2_begin 1 0 0 nx (Qr) (Qx) nx 0 0 7 [(0, .ref 74), (1, .ref r1), (2, vi x2)] [] (hp nx s) := by
  unfold En_begin_t7 at hs
  refine w_iload_n 2 dX2_begin_7 rfl rfl ?_
  refine w_aload_n 0 dX2_begin_8 rfl rfl ?_
  refine x_getR 2 0 (b := 1) dX2_begin_9 (fxX2_9 rfl) rfl rfl (lt_of hnx (Nat.le_of_ble_eq_true rfl)) rfl ?_
  refine x_getI 5 4 dX2_begin_12 (fxX2_33 rfl) rfl rfl (lt_of hnx (Nat.le_of_ble_eq_true rfl)) ?_
  refine x_icmpge hs dX2_begin_15 rfl (fun hs => ?_) (fun hs => ?_)
  · refine w_lv (lv' := [(0, .ref 74)]) [0] rfl ?_
    cases hs
    exact he0 _ rfl
  · refine w_aload_n 0 dX2_begin_18 rfl rfl ?_
    refine x_getR 2 2 (b := 75) dX2_begin_19 (fxX2_19 rfl) rfl rfl (lt_of hnx (Nat.le_of_ble_eq_true rfl)) rfl ?_
    refine w_iload_n 2 dX2_begin_22 rfl rfl ?_
    refine w_aload_n 1 dX2_begin_23 rfl rfl ?_
    refine w_iload_n 2 dX2_begin_24 rfl rfl ?_
    refine x_N_I M_X11_at [.ref r1, vi x2] [vi x2, .ref 75] hs rfl dX2_begin_25 (lkX2_38 _ rfl) (Nat.le_of_ble_eq_true rfl) (Nat.le_of_ble_eq_true rfl) (Nat.le_of_ble_eq_true rfl) (Nat.le_of_ble_eq_true rfl) (c_Hx_at hnx r1 h_r1 x2 s) (fun y2 hy2 hs => ?_)
    refine x_N_V M_X11_set [.ref 75, vi x2, vi y2] [] hs rfl dX2_begin_28 (lkX2_42 _ rfl) (Nat.le_of_ble_eq_true rfl) (Nat.le_of_ble_eq_true rfl) (Nat.le_of_ble_eq_true rfl) (Nat.le_of_ble_eq_true rfl) (c_Hx_set hnx 75 (rowW_of rfl (lt_of hnx (Nat.le_of_ble_eq_true rfl))) x2 y2 s) (fun s4 hs4 hs => ?_)
    refine w_aload_n 1 dX2_begin_31 rfl rfl ?_
    refine w_iload_n 2 dX2_begin_32 rfl rfl ?_
    refine x_N_I M_X11_at [.ref r1, vi x2] [] hs rfl dX2_begin_33 (lkX2_38 _ rfl) (Nat.le_of_ble_eq_true rfl) (Nat.le_of_ble_eq_true rfl) (Nat.le_of_ble_eq_true rfl) (Nat.le_of_ble_eq_true rfl) (c_Hx_at hnx r1 h_r1 x2 s4) (fun y5 hy5 hs => ?_)
    refine x_iconst dX2_begin_36 ?_
    refine x_icmpne hs dX2_begin_37 rfl (fun hs => ?_) (fun hs => ?_)
    · exact q_En_begin_b71 hnx r1 h_r1 x2 s4 hs hb he0
    · refine w_aload_n 0 dX2_begin_40 rfl rfl ?_
      refine x_getI 2 5 dX2_begin_41 (fxX2_29 rfl) rfl rfl (lt_of hnx (Nat.le_of_ble_eq_true rfl)) ?_
      refine x_bipush dX2_begin_44 (by decide) ?_
      refine x_icmpge hs dX2_begin_46 rfl (fun hs => ?_) (fun hs => ?_)
      · exact q_En_begin_b71 hnx r1 h_r1 x2 s4 hs hb he0
      · refine w_aload_n 0 dX2_begin_49 rfl rfl ?_
        refine x_getR 2 3 (b := 76) dX2_begin_50 (fxX2_23 rfl) rfl rfl (lt_of hnx (Nat.le_of_ble_eq_true rfl)) rfl ?_
        refine w_aload_n 0 dX2_begin_53 rfl rfl ?_
        refine x_getI 2 5 dX2_begin_54 (fxX2_29 rfl) rfl rfl (lt_of hnx (Nat.le_of_ble_eq_true rfl)) ?_
        refine w_iload_n 2 dX2_begin_57 rfl rfl ?_
        refine x_N_V M_X11_set [.ref 76, vi (gi s4 74 5), vi x2] [] hs rfl dX2_begin_58 (lkX2_42 _ rfl) (Nat.le_of_ble_eq_true rfl) (Nat.le_of_ble_eq_true rfl) (Nat.le_of_ble_eq_true rfl) (Nat.le_of_ble_eq_true rfl) (c_Hx_set hnx 76 (rowW_of rfl (lt_of hnx (Nat.le_of_ble_eq_true rfl))) (gi s4 74 5) x2 s4) (fun s7 hs7 hs => ?_)
        refine w_aload_n 0 dX2_begin_61 rfl rfl ?_
        refine w_dup dX2_begin_62 rfl ?_
        refine x_getI 2 5 dX2_begin_63 (fxX2_29 rfl) rfl rfl (lt_of hnx (Nat.le_of_ble_eq_true rfl)) ?_
        refine x_iconst dX2_begin_66 ?_
        refine x_iadd dX2_begin_67 ?_
        refine x_putI 2 5 dX2_begin_68 (poX2_29 rfl) rfl rfl (lt_of hnx (Nat.le_of_ble_eq_true rfl)) ?_
        refine nam_s hs (fun s8 hs => ?_)
        exact q_En_begin_b71 hnx r1 h_r1 x2 s8 hs hb he0
set_option maxRecDepth 100000 in
theorem q_En_begin_t79 {C : Cx} {nx : Nat} (hnx : 80 ≤ nx) {Qr : Option Value → Hp → Prop} {Qx : String → Hp → Prop}  (x2 : Int) (s : Sg) {o : ((Int × Sg) ⊕ (Sg))} (hs : En_begin_t79 x2 s = some o) (hb : ∀ σ : Int × Sg, o = .inl σ → ww C M_X2_begin 1 0 0 nx (Qr) (Qx) nx 0 0 79 [(0, .ref 74), (2, vi σ.1)] [] (hp nx σ.2)) (he0 : ∀ ρ : Sg, o = .inr ρ → ww C M_X2_begin 1 0 0 nx (Qr) (Qx) nx 0 0 101 [] [] (hp nx ρ)) : ww C M_X2_begin 1 0 0 nx (Qr) (Qx) nx 0 0 79 [(0, .ref 74), (2, vi x2)] [] (hp nx s) := by
  unfold En_begin_t79 at hs
  refine w_iload_n 1 dX2_begin_79 rfl rfl ?_
  refine w_aload_n 0 dX2_begin_80 rfl rfl ?_
  refine x_getR 2 4 (b := 77) dX2_begin_81 (fxX2_26 rfl) rfl rfl (lt_of hnx (Nat.le_of_ble_eq_true rfl)) rfl ?_
  refine x_alen dX2_begin_84 (Or.inl ⟨rfl, (lt_of hnx (Nat.le_of_ble_eq_true rfl))⟩) ?_
  refine x_icmpge hs dX2_begin_85 rfl (fun hs => ?_) (fun hs => ?_)
  · refine w_lv (lv' := []) [] rfl ?_
    cases hs
    exact he0 _ rfl
  · refine w_aload_n 0 dX2_begin_88 rfl rfl ?_
    refine x_getR 2 4 (b := 77) dX2_begin_89 (fxX2_26 rfl) rfl rfl (lt_of hnx (Nat.le_of_ble_eq_true rfl)) rfl ?_
    refine w_iload_n 1 dX2_begin_92 rfl rfl ?_
    refine x_iconst dX2_begin_93 ?_
    refine grd_e hs (fun hg10 hs => ?_)
    refine x_iast hg10 (Nat.le_of_ble_eq_true rfl) dX2_begin_94 rfl (lt_of hnx (Nat.le_of_ble_eq_true rfl)) ?_
    refine nam_s hs (fun s11 hs => ?_)
    refine x_iinc (lv' := [(2, vi (x2 + 1)), (0, .ref 74)]) 1 dX2_begin_95 rfl (Nat.le_of_ble_eq_true rfl) rfl ?_
    refine w_goto dX2_begin_98 rfl ?_
    refine w_lv (lv' := [(0, .ref 74), (2, vi (x2 + 1))]) [1, 0] rfl ?_
    cases hs
    exact hb _ rfl
set_option maxRecDepth 100000 in
theorem q_En_begin_l79 {C : Cx} {nx : Nat} (hnx : 80 ≤ nx) (x2 : Int) (s : Sg) {o : Sg} (hs : En_begin_l79 x2 s = some o) : ww C M_X2_begin 1 0 0 nx (QV nx o) (XF) nx 0 0 79 [(0, .ref 74), (2, vi x2)] [] (hp nx s) := by
  unfold En_begin_l79 at hs
  refine bnd_e hs (fun s_12 hw hs => ?_)
  have hE : ww C M_X2_begin 1 0 0 nx (QV nx o) (XF) nx 0 0 101 [] [] (hp nx s_12) := by
    cases hs
    exact w_return rfl dX2_begin_101 rfl (Nat.le_of_ble_eq_true rfl) (Nat.le_of_ble_eq_true rfl) ⟨rfl, rfl⟩
  refine whl_w (P := fun σ => ww C M_X2_begin 1 0 0 nx (QV nx o) (XF) nx 0 0 79 [(0, .ref 74), (2, vi σ.1)] [] (hp nx σ.2)) (E := fun ρ => ρ = s_12) hw rfl ?_
  intro σ o' hs' hb' he'
  exact q_En_begin_t79 hnx σ.1 σ.2 hs' hb' (fun ρ e => by cases he' _ e; exact hE)
set_option maxRecDepth 100000 in
theorem q_En_begin_l7 {C : Cx} {nx : Nat} (hnx : 80 ≤ nx) (r1 : Nat) (h_r1 : isRow nx r1) (x2 : Int) (s : Sg) {o : Sg} (hs : En_begin_l7 r1 x2 s = some o) : ww C M_X2_begin 1 0 0 nx (QV nx o) (XF) nx 0 0 7 [(0, .ref 74), (1, .ref r1), (2, vi x2)] [] (hp nx s) := by
  unfold En_begin_l7 at hs
  refine bnd_e hs (fun s_9 hw hs => ?_)
  have hE : ww C M_X2_begin 1 0 0 nx (QV nx o) (XF) nx 0 0 77 [(0, .ref 74)] [] (hp nx s_9) := by
    refine x_iconst dX2_begin_77 ?_
    refine w_istore_n (lv' := [(2, vi 0), (0, .ref 74)]) dX2_begin_78 rfl (Nat.le_of_ble_eq_true rfl) rfl ?_
    refine w_lv (lv' := [(0, .ref 74), (2, vi 0)]) [1, 0] rfl ?_
    exact q_En_begin_l79 hnx 0 s_9 hs
  refine whl_w (P := fun σ => ww C M_X2_begin 1 0 0 nx (QV nx o) (XF) nx 0 0 7 [(0, .ref 74), (1, .ref r1), (2, vi σ.1)] [] (hp nx σ.2)) (E := fun ρ => ρ = s_9) hw rfl ?_
  intro σ o' hs' hb' he'
  exact q_En_begin_t7 hnx r1 h_r1 σ.1 σ.2 hs' hb' (fun ρ e => by cases he' _ e; exact hE)
set_option maxRecDepth 100000 in
theorem c_En_begin {C : Cx} {nx : Nat} (hnx : 80 ≤ nx) (r1 : Nat) (h_r1 : isRow nx r1) (s : Sg) : ∀ o, En_begin r1 s = some o → mm C M_X2_begin 1 0 0 nx nx [.ref 74, .ref r1] (hp nx s) (QV nx o) (XF) := by
  intro o hs
  unfold En_begin at hs
  refine mm_of rfl rfl (Nat.le_of_ble_eq_true rfl) ?_
  show ww C M_X2_begin 1 0 0 nx (QV nx o) (XF) nx 0 0 0 [(0, .ref 74), (1, .ref r1)] [] (hp nx s)
  refine w_aload_n 0 dX2_begin_0 rfl rfl ?_
  refine x_iconst dX2_begin_1 ?_
  refine x_putI 2 5 dX2_begin_2 (poX2_29 rfl) rfl rfl (lt_of hnx (Nat.le_of_ble_eq_true rfl)) ?_
  refine nam_s hs (fun s1 hs => ?_)
  refine x_iconst dX2_begin_5 ?_
  refine w_istore_n (lv' := [(2, vi 0), (0, .ref 74), (1, .ref r1)]) dX2_begin_6 rfl (Nat.le_of_ble_eq_true rfl) rfl ?_
  refine w_lv (lv' := [(0, .ref 74), (1, .ref r1), (2, vi 0)]) [1, 2, 0] rfl ?_
  exact q_En_begin_l7 hnx r1 h_r1 0 s1 hs
set_option maxRecDepth 100000 in
theorem c_En_all {C : Cx} {nx : Nat} (hnx : 80 ≤ nx)  (s : Sg) : ∀ o, En_all  s = some o → mm C M_X2_all 0 0 0 nx nx [.ref 74] (hp nx s) (QI nx s o) (XF) := by
  intro o hs
  unfold En_all at hs
  refine mm_of rfl rfl (Nat.le_of_ble_eq_true rfl) ?_
  show ww C M_X2_all 0 0 0 nx (QI nx s o) (XF) nx 0 0 0 [(0, .ref 74)] [] (hp nx s)
  refine x_iconst dX2_all_0 ?_
  refine w_aload_n 0 dX2_all_1 rfl rfl ?_
  refine x_getI 2 5 dX2_all_2 (fxX2_29 rfl) rfl rfl (lt_of hnx (Nat.le_of_ble_eq_true rfl)) ?_
  refine x_ishl dX2_all_5 ?_
  refine x_iconst dX2_all_6 ?_
  refine x_isub dX2_all_7 ?_
  cases hs
  exact x_ireturn dX2_all_8 rfl rfl (Nat.le_of_ble_eq_true rfl) (Nat.le_of_ble_eq_true rfl) ⟨rfl, rfl⟩

set_option maxRecDepth 100000 in
theorem q_En_lowestGood_t2 {C : Cx} {nx : Nat} (hnx : 80 ≤ nx) {Qr : Option Value → Hp → Prop} {Qx : String → Hp → Prop}  (x1 : Int) (x2 : Int) (s : Sg) {o : ((Int × Sg) ⊕ ((Int × Sg) ⊕ (Sg)))} (hs : En_lowestGood_t2 x1 x2 s = some o) (hb : ∀ σ : Int × Sg, o = .inl σ → ww C M_X2_lowestGood 14 0 0 nx (Qr) (Qx) nx 0 0 2 [(0, .ref 74), (1, vi x1), (2, vi σ.1)] [] (hp nx σ.2)) (he0 : ∀ ρ : Int × Sg, o = .inr (.inl ρ) → ww C M_X2_lowestGood 14 0 0 nx (Qr) (Qx) nx 0 0 19 [(0, .ref 74), (2, vi ρ.1)] [] (hp nx ρ.2)) (he1 : ∀ ρ : Sg, o = .inr (.inr ρ) → ww C M_X2_lowestGood 14 0 0 nx (Qr) (Qx) nx 0 0 34 [] [] (hp nx ρ)) : ww C M_X2_lowestGood 14 0 0 nx (Qr) (Qx) nx 0 0 2 [(0, .ref 74), (1, vi x1), (2, vi x2)] [] (hp nx s) := by
  unfold En_lowestGood_t2 at hs
  refine w_iload_n 2 dX2_lowestGood_2 rfl rfl ?_
  refine w_aload_n 0 dX2_lowestGood_3 rfl rfl ?_
  refine x_getI 2 5 dX2_lowestGood_4 (fxX2_29 rfl) rfl rfl (lt_of hnx (Nat.le_of_ble_eq_true rfl)) ?_
  refine x_icmpge hs dX2_lowestGood_7 rfl (fun hs => ?_) (fun hs => ?_)
  · refine w_lv (lv' := []) [] rfl ?_
    cases hs
    exact he1 _ rfl
  · refine w_aload_n 0 dX2_lowestGood_10 rfl rfl ?_
    refine w_iload_n 2 dX2_lowestGood_11 rfl rfl ?_
    refine w_iload_n 1 dX2_lowestGood_12 rfl rfl ?_
    refine x_V_B M_X2_isGood [vi x2, vi x1] [] hs rfl dX2_lowestGood_13 (lkX2_54 _ rfl) (lt_of hnx (Nat.le_of_ble_eq_true rfl)) rfl rfl (Nat.le_of_ble_eq_true rfl) (Nat.le_of_ble_eq_true rfl) (Nat.le_of_ble_eq_true rfl) (Nat.le_of_ble_eq_true rfl) (c_En_isGood hnx x2 x1 s) (fun y1 s2 hy1 hs => ?_)
    refine x_ifeq hs dX2_lowestGood_16 rfl (fun hs => ?_) (fun hs => ?_)
    · refine x_iinc (lv' := [(2, vi (x2 + 1)), (0, .ref 74), (1, vi x1)]) 2 dX2_lowestGood_28 rfl (Nat.le_of_ble_eq_true rfl) rfl ?_
      refine w_goto dX2_lowestGood_31 rfl ?_
      refine w_lv (lv' := [(0, .ref 74), (1, vi x1), (2, vi (x2 + 1))]) [1, 2, 0] rfl ?_
      cases hs
      exact hb _ rfl
    · refine w_lv (lv' := [(0, .ref 74), (2, vi x2)]) [0, 2] rfl ?_
      cases hs
      exact he0 _ rfl
set_option maxRecDepth 100000 in
theorem q_En_lowestGood_l2 {C : Cx} {nx : Nat} (hnx : 80 ≤ nx) (x1 : Int) (x2 : Int) (s : Sg) {o : Int × Sg} (hs : En_lowestGood_l2 x1 x2 s = some o) : ww C M_X2_lowestGood 14 0 0 nx (QI nx o.2 o.1) (XF) nx 0 0 2 [(0, .ref 74), (1, vi x1), (2, vi x2)] [] (hp nx s) := by
  unfold En_lowestGood_l2 at hs
  refine bnd_e hs (fun ρ hw hs => ?_)
  rcases ρ with ⟨x2_3, s_4⟩ | s_6
  · have hE : ww C M_X2_lowestGood 14 0 0 nx (QI nx o.2 o.1) (XF) nx 0 0 19 [(0, .ref 74), (2, vi x2_3)] [] (hp nx s_4) := by
      refine w_aload_n 0 dX2_lowestGood_19 rfl rfl ?_
      refine x_getR 2 3 (b := 76) dX2_lowestGood_20 (fxX2_23 rfl) rfl rfl (lt_of hnx (Nat.le_of_ble_eq_true rfl)) rfl ?_
      refine w_iload_n 1 dX2_lowestGood_23 rfl rfl ?_
      refine x_N_I M_X11_at [.ref 76, vi x2_3] [] hs rfl dX2_lowestGood_24 (lkX2_38 _ rfl) (Nat.le_of_ble_eq_true rfl) (Nat.le_of_ble_eq_true rfl) (Nat.le_of_ble_eq_true rfl) (Nat.le_of_ble_eq_true rfl) (c_Hx_at hnx 76 (Or.inl (rowW_of rfl (lt_of hnx (Nat.le_of_ble_eq_true rfl)))) x2_3 s_4) (fun y5 hy5 hs => ?_)
      cases hs
      exact x_ireturn dX2_lowestGood_27 rfl rfl (Nat.le_of_ble_eq_true rfl) (Nat.le_of_ble_eq_true rfl) ⟨rfl, rfl⟩
    refine whl_w (P := fun σ => ww C M_X2_lowestGood 14 0 0 nx (QI nx o.2 o.1) (XF) nx 0 0 2 [(0, .ref 74), (1, vi x1), (2, vi σ.1)] [] (hp nx σ.2)) (E := fun ρ => ρ = (.inl (x2_3, s_4))) hw rfl ?_
    intro σ o' hs' hb' he'
    exact q_En_lowestGood_t2 hnx x1 σ.1 σ.2 hs' hb' (fun ρ e => by cases he' _ e; exact hE) (fun ρ e => by cases he' _ e)
  · have hE : ww C M_X2_lowestGood 14 0 0 nx (QI nx o.2 o.1) (XF) nx 0 0 34 [] [] (hp nx s_6) := by
      refine x_iconst dX2_lowestGood_34 ?_
      cases hs
      exact x_ireturn dX2_lowestGood_35 rfl rfl (Nat.le_of_ble_eq_true rfl) (Nat.le_of_ble_eq_true rfl) ⟨rfl, rfl⟩
    refine whl_w (P := fun σ => ww C M_X2_lowestGood 14 0 0 nx (QI nx o.2 o.1) (XF) nx 0 0 2 [(0, .ref 74), (1, vi x1), (2, vi σ.1)] [] (hp nx σ.2)) (E := fun ρ => ρ = (.inr s_6)) hw rfl ?_
    intro σ o' hs' hb' he'
    exact q_En_lowestGood_t2 hnx x1 σ.1 σ.2 hs' hb' (fun ρ e => by cases he' _ e) (fun ρ e => by cases he' _ e; exact hE)
set_option maxRecDepth 100000 in
theorem c_En_lowestGood {C : Cx} {nx : Nat} (hnx : 80 ≤ nx) (x1 : Int) (s : Sg) : ∀ o, En_lowestGood x1 s = some o → mm C M_X2_lowestGood 14 0 0 nx nx [.ref 74, vi x1] (hp nx s) (QI nx o.2 o.1) (XF) := by
  intro o hs
  unfold En_lowestGood at hs
  refine mm_of rfl rfl (Nat.le_of_ble_eq_true rfl) ?_
  show ww C M_X2_lowestGood 14 0 0 nx (QI nx o.2 o.1) (XF) nx 0 0 0 [(0, .ref 74), (1, vi x1)] [] (hp nx s)
  refine x_iconst dX2_lowestGood_0 ?_
  refine w_istore_n (lv' := [(2, vi 0), (0, .ref 74), (1, vi x1)]) dX2_lowestGood_1 rfl (Nat.le_of_ble_eq_true rfl) rfl ?_
  refine w_lv (lv' := [(0, .ref 74), (1, vi x1), (2, vi 0)]) [1, 2, 0] rfl ?_
  exact q_En_lowestGood_l2 hnx x1 0 s hs
set_option maxRecDepth 100000 in
theorem c_Hx_bestMove {C : Cx} {nx : Nat} (hnx : 80 ≤ nx)  (s : Sg) : ∀ o, Hx_bestMove  s = some o → mm C M_X11_bestMove 15 0 0 nx nx [.ref 0] (hp nx s) (QI nx o.2 o.1) (XF) := by
  intro o hs
  unfold Hx_bestMove at hs
  refine mm_of rfl rfl (Nat.le_of_ble_eq_true rfl) ?_
  show ww C M_X11_bestMove 15 0 0 nx (QI nx o.2 o.1) (XF) nx 0 0 0 [(0, .ref 0)] [] (hp nx s)
  refine w_aload_n 0 dX11_bestMove_0 rfl rfl ?_
  refine x_V_B M_X11_winner [] [] hs rfl dX11_bestMove_1 (lkX11_161 _ rfl) (lt_of hnx (Nat.le_of_ble_eq_true rfl)) rfl rfl (Nat.le_of_ble_eq_true rfl) (Nat.le_of_ble_eq_true rfl) (Nat.le_of_ble_eq_true rfl) (Nat.le_of_ble_eq_true rfl) (c_Hx_winner hnx s) (fun y1 s2 hy1 hs => ?_)
  refine x_iconst dX11_bestMove_4 ?_
  refine x_icmpne hs dX11_bestMove_5 rfl (fun hs => ?_) (fun hs => ?_)
  · refine x_iconst dX11_bestMove_21 ?_
    cases hs
    exact x_ireturn dX11_bestMove_22 rfl rfl (Nat.le_of_ble_eq_true rfl) (Nat.le_of_ble_eq_true rfl) ⟨rfl, rfl⟩
  · refine w_aload_n 0 dX11_bestMove_8 rfl rfl ?_
    refine x_getR 11 2 (b := 10) dX11_bestMove_9 (fxX11_28 rfl) rfl rfl (lt_of hnx (Nat.le_of_ble_eq_true rfl)) rfl ?_
    refine x_iconst dX11_bestMove_12 ?_
    refine x_V_I M_X9_count [vi (-1)] [] hs rfl dX11_bestMove_13 (lkX11_151 _ rfl) (lt_of hnx (Nat.le_of_ble_eq_true rfl)) rfl rfl (Nat.le_of_ble_eq_true rfl) (Nat.le_of_ble_eq_true rfl) (Nat.le_of_ble_eq_true rfl) (Nat.le_of_ble_eq_true rfl) (c_Po_count hnx 10 (show 10 ∈ posL by decide) (-1) s2) (fun y3 hy3 hs => ?_)
    refine x_bipush dX11_bestMove_16 (by decide) ?_
    refine x_icmple hs dX11_bestMove_18 rfl (fun hs => ?_) (fun hs => ?_)
    · refine w_aload_n 0 dX11_bestMove_23 rfl rfl ?_
      refine x_getR 11 14 (b := 74) dX11_bestMove_24 (fxX11_98 rfl) rfl rfl (lt_of hnx (Nat.le_of_ble_eq_true rfl)) rfl ?_
      refine w_aload_n 0 dX11_bestMove_27 rfl rfl ?_
      refine x_getR 11 2 (b := 10) dX11_bestMove_28 (fxX11_28 rfl) rfl rfl (lt_of hnx (Nat.le_of_ble_eq_true rfl)) rfl ?_
      refine x_getR 9 0 (b := 11) dX11_bestMove_31 (fxX11_194 rfl) rfl rfl (lt_of hnx (Nat.le_of_ble_eq_true rfl)) rfl ?_
      refine x_V_V M_X2_begin [.ref 11] [] hs rfl dX11_bestMove_34 (lkX11_288 _ rfl) (lt_of hnx (Nat.le_of_ble_eq_true rfl)) rfl rfl (Nat.le_of_ble_eq_true rfl) (Nat.le_of_ble_eq_true rfl) (Nat.le_of_ble_eq_true rfl) (Nat.le_of_ble_eq_true rfl) (c_En_begin hnx 11 (Or.inl (rowW_of rfl (lt_of hnx (Nat.le_of_ble_eq_true rfl)))) s2) (fun s5 hs5 hs => ?_)
      refine w_aload_n 0 dX11_bestMove_37 rfl rfl ?_
      refine x_getR 11 14 (b := 74) dX11_bestMove_38 (fxX11_98 rfl) rfl rfl (lt_of hnx (Nat.le_of_ble_eq_true rfl)) rfl ?_
      refine w_aload_n 0 dX11_bestMove_41 rfl rfl ?_
      refine x_getR 11 2 (b := 10) dX11_bestMove_42 (fxX11_28 rfl) rfl rfl (lt_of hnx (Nat.le_of_ble_eq_true rfl)) rfl ?_
      refine x_getI 9 5 dX11_bestMove_45 (fxX11_158 rfl) rfl rfl (lt_of hnx (Nat.le_of_ble_eq_true rfl)) ?_
      refine x_V_B M_X2_lowestGood [vi (gi s5 10 5)] [] hs rfl dX11_bestMove_48 (lkX11_296 _ rfl) (lt_of hnx (Nat.le_of_ble_eq_true rfl)) rfl rfl (Nat.le_of_ble_eq_true rfl) (Nat.le_of_ble_eq_true rfl) (Nat.le_of_ble_eq_true rfl) (Nat.le_of_ble_eq_true rfl) (c_En_lowestGood hnx (gi s5 10 5) s5) (fun y6 s7 hy6 hs => ?_)
      cases hs
      exact x_ireturn dX11_bestMove_51 rfl rfl (Nat.le_of_ble_eq_true rfl) (Nat.le_of_ble_eq_true rfl) ⟨rfl, rfl⟩
    · refine x_iconst dX11_bestMove_21 ?_
      cases hs
      exact x_ireturn dX11_bestMove_22 rfl rfl (Nat.le_of_ble_eq_true rfl) (Nat.le_of_ble_eq_true rfl) ⟨rfl, rfl⟩
set_option maxRecDepth 100000 in
theorem c_Fi_begin {C : Cx} {nx : Nat} (hnx : 80 ≤ nx) (x1 : Int) (s : Sg) : ∀ o, Fi_begin x1 s = some o → mm C M_X3_begin 0 0 0 nx nx [.ref 78, vi x1] (hp nx s) (QV nx o) (XF) := by
  intro o hs
  unfold Fi_begin at hs
  refine mm_of rfl rfl (Nat.le_of_ble_eq_true rfl) ?_
  show ww C M_X3_begin 0 0 0 nx (QV nx o) (XF) nx 0 0 0 [(0, .ref 78), (1, vi x1)] [] (hp nx s)
  refine w_aload_n 0 dX3_begin_0 rfl rfl ?_
  refine w_iload_n 1 dX3_begin_1 rfl rfl ?_
  refine x_putI 3 3 dX3_begin_2 (poX3_23 rfl) rfl rfl (lt_of hnx (Nat.le_of_ble_eq_true rfl)) ?_
  refine nam_s hs (fun s1 hs => ?_)
  cases hs
  exact w_return rfl dX3_begin_5 rfl (Nat.le_of_ble_eq_true rfl) (Nat.le_of_ble_eq_true rfl) ⟨rfl, rfl⟩
set_option maxRecDepth 100000 in
theorem c_Fi_nextStone {C : Cx} {nx : Nat} (hnx : 80 ≤ nx)  (s : Sg) : ∀ o, Fi_nextStone  s = some o → mm C M_X3_nextStone 0 0 0 nx nx [.ref 78] (hp nx s) (QI nx o.2 o.1) (XF) := by
  intro o hs
  unfold Fi_nextStone at hs
  refine mm_of rfl rfl (Nat.le_of_ble_eq_true rfl) ?_
  show ww C M_X3_nextStone 0 0 0 nx (QI nx o.2 o.1) (XF) nx 0 0 0 [(0, .ref 78)] [] (hp nx s)
  refine w_aload_n 0 dX3_nextStone_0 rfl rfl ?_
  refine x_ldc 1103515245 dX3_nextStone_1 (csX3_54 rfl) ?_
  refine w_aload_n 0 dX3_nextStone_3 rfl rfl ?_
  refine x_getI 3 3 dX3_nextStone_4 (fxX3_23 rfl) rfl rfl (lt_of hnx (Nat.le_of_ble_eq_true rfl)) ?_
  refine x_imul dX3_nextStone_7 ?_
  refine x_sipush dX3_nextStone_8 (by decide) ?_
  refine x_iadd dX3_nextStone_11 ?_
  refine x_ldc 2147483647 dX3_nextStone_12 (csX3_55 rfl) ?_
  refine x_iand dX3_nextStone_14 ?_
  refine x_putI 3 3 dX3_nextStone_15 (poX3_23 rfl) rfl rfl (lt_of hnx (Nat.le_of_ble_eq_true rfl)) ?_
  refine nam_s hs (fun s1 hs => ?_)
  refine w_aload_n 0 dX3_nextStone_18 rfl rfl ?_
  refine x_getI 3 3 dX3_nextStone_19 (fxX3_23 rfl) rfl rfl (lt_of hnx (Nat.le_of_ble_eq_true rfl)) ?_
  refine x_ldc 65536 dX3_nextStone_22 (csX3_56 rfl) ?_
  refine grd_e hs (fun hg2 hs => ?_)
  refine x_idiv dX3_nextStone_24 ⟨hg2.1, by decide, hg2.2.2⟩ ?_
  refine x_iconst dX3_nextStone_25 ?_
  refine grd_e hs (fun hg3 hs => ?_)
  refine x_irem dX3_nextStone_26 ⟨hg3.1, by decide, hg3.2.2⟩ ?_
  refine x_ifne hs dX3_nextStone_27 rfl (fun hs => ?_) (fun hs => ?_)
  · refine x_iconst dX3_nextStone_34 ?_
    cases hs
    exact x_ireturn dX3_nextStone_35 rfl rfl (Nat.le_of_ble_eq_true rfl) (Nat.le_of_ble_eq_true rfl) ⟨rfl, rfl⟩
  · refine x_iconst dX3_nextStone_30 ?_
    refine w_goto dX3_nextStone_31 rfl ?_
    cases hs
    exact x_ireturn dX3_nextStone_35 rfl rfl (Nat.le_of_ble_eq_true rfl) (Nat.le_of_ble_eq_true rfl) ⟨rfl, rfl⟩
set_option maxRecDepth 100000 in
theorem q_Fi_next_b37 {C : Cx} {nx : Nat} (hnx : 80 ≤ nx) {Qr : Option Value → Hp → Prop} {Qx : String → Hp → Prop}  (r1 : Nat) (h_r1 : isRow nx r1) (x2 : Int) (t1 : Int) (t2 : Int) (s : Sg) {o : ((Int × Sg) ⊕ (Sg))} (hs : Fi_next_b37 r1 x2 t1 t2 s = some o) (hb : ∀ σ : Int × Sg, o = .inl σ → ww C M_X3_next 3 0 0 nx (Qr) (Qx) nx 0 0 2 [(0, .ref 78), (1, .ref r1), (2, vi σ.1)] [] (hp nx σ.2)) (he0 : ∀ ρ : Sg, o = .inr ρ → ww C M_X3_next 3 0 0 nx (Qr) (Qx) nx 0 0 46 [(0, .ref 78)] [] (hp nx ρ)) : ww C M_X3_next 3 0 0 nx (Qr) (Qx) nx 0 0 37 [(0, .ref 78), (1, .ref r1), (2, vi x2)] [vi t2, vi t1, .ref 79] (hp nx s) := by
  unfold Fi_next_b37 at hs
  refine x_N_V M_X11_set [.ref 79, vi t1, vi t2] [] hs rfl dX3_next_37 (lkX3_40 _ rfl) (Nat.le_of_ble_eq_true rfl) (Nat.le_of_ble_eq_true rfl) (Nat.le_of_ble_eq_true rfl) (Nat.le_of_ble_eq_true rfl) (c_Hx_set hnx 79 (rowW_of rfl (lt_of hnx (Nat.le_of_ble_eq_true rfl))) t1 t2 s) (fun s3 hs3 hs => ?_)
  refine x_iinc (lv' := [(2, vi (x2 + 1)), (0, .ref 78), (1, .ref r1)]) 2 dX3_next_40 rfl (Nat.le_of_ble_eq_true rfl) rfl ?_
  refine w_goto dX3_next_43 rfl ?_
  refine w_lv (lv' := [(0, .ref 78), (1, .ref r1), (2, vi (x2 + 1))]) [1, 2, 0] rfl ?_
  cases hs
  exact hb _ rfl
set_option maxRecDepth 100000 in
theorem q_Fi_next_t2 {C : Cx} {nx : Nat} (hnx : 80 ≤ nx) {Qr : Option Value → Hp → Prop} {Qx : String → Hp → Prop}  (r1 : Nat) (h_r1 : isRow nx r1) (x2 : Int) (s : Sg) {o : ((Int × Sg) ⊕ (Sg))} (hs : Fi_next_t2 r1 x2 s = some o) (hb : ∀ σ : Int × Sg, o = .inl σ → ww C M_X3_next 3 0 0 nx (Qr) (Qx) nx 0 0 2 [(0, .ref 78), (1, .ref r1), (2, vi σ.1)] [] (hp nx σ.2)) (he0 : ∀ ρ : Sg, o = .inr ρ → ww C M_X3_next 3 0 0 nx (Qr) (Qx) nx 0 0 46 [(0, .ref 78)] [] (hp nx ρ)) : ww C M_X3_next 3 0 0 nx (Qr) (Qx) nx 0 0 2 [(0, .ref 78), (1, .ref r1), (2, vi x2)] [] (hp nx s) := by
  unfold Fi_next_t2 at hs
  refine w_iload_n 2 dX3_next_2 rfl rfl ?_
  refine w_aload_n 0 dX3_next_3 rfl rfl ?_
  refine x_getR 3 0 (b := 1) dX3_next_4 (fxX3_9 rfl) rfl rfl (lt_of hnx (Nat.le_of_ble_eq_true rfl)) rfl ?_
  refine x_getI 5 4 dX3_next_7 (fxX3_27 rfl) rfl rfl (lt_of hnx (Nat.le_of_ble_eq_true rfl)) ?_
  refine x_icmpge hs dX3_next_10 rfl (fun hs => ?_) (fun hs => ?_)
  · refine w_lv (lv' := [(0, .ref 78)]) [0] rfl ?_
    cases hs
    exact he0 _ rfl
  · refine w_aload_n 1 dX3_next_13 rfl rfl ?_
    refine w_iload_n 2 dX3_next_14 rfl rfl ?_
    refine x_N_I M_X11_at [.ref r1, vi x2] [] hs rfl dX3_next_15 (lkX3_32 _ rfl) (Nat.le_of_ble_eq_true rfl) (Nat.le_of_ble_eq_true rfl) (Nat.le_of_ble_eq_true rfl) (Nat.le_of_ble_eq_true rfl) (c_Hx_at hnx r1 h_r1 x2 s) (fun y1 hy1 hs => ?_)
    refine w_istore_n (lv' := [(3, vi y1), (0, .ref 78), (1, .ref r1), (2, vi x2)]) dX3_next_18 rfl (Nat.le_of_ble_eq_true rfl) rfl ?_
    refine w_aload_n 1 dX3_next_19 rfl rfl ?_
    refine x_getR 3 2 (b := 79) dX3_next_20 (fxX3_19 rfl) rfl rfl (lt_of hnx (Nat.le_of_ble_eq_true rfl)) rfl ?_
    refine w_iload_n 3 dX3_next_23 rfl rfl ?_
    refine w_iload_n 0 dX3_next_24 rfl rfl ?_
    refine x_iconst dX3_next_25 ?_
    refine x_icmpne hs dX3_next_26 rfl (fun hs => ?_) (fun hs => ?_)
    · refine w_iload_n 0 dX3_next_36 rfl rfl ?_
      refine w_lv (lv' := [(0, .ref 78), (1, .ref r1), (2, vi x2)]) [1, 2, 3] rfl ?_
      exact q_Fi_next_b37 hnx r1 h_r1 x2 x2 y1 s hs hb he0
    · refine w_aload_n 1 dX3_next_29 rfl rfl ?_
      refine x_V_B M_X3_nextStone [] [vi x2, .ref 79] hs rfl dX3_next_30 (lkX3_36 _ rfl) (lt_of hnx (Nat.le_of_ble_eq_true rfl)) rfl rfl (Nat.le_of_ble_eq_true rfl) (Nat.le_of_ble_eq_true rfl) (Nat.le_of_ble_eq_true rfl) (Nat.le_of_ble_eq_true rfl) (c_Fi_nextStone hnx s) (fun y4 s5 hy4 hs => ?_)
      refine w_goto dX3_next_33 rfl ?_
      refine w_lv (lv' := [(0, .ref 78), (1, .ref r1), (2, vi x2)]) [1, 2, 3] rfl ?_
      exact q_Fi_next_b37 hnx r1 h_r1 x2 x2 y4 s5 hs hb he0
set_option maxRecDepth 100000 in
theorem q_Fi_next_l2 {C : Cx} {nx : Nat} (hnx : 80 ≤ nx) (r1 : Nat) (h_r1 : isRow nx r1) (x2 : Int) (s : Sg) {o : Int × Sg} (hs : Fi_next_l2 r1 x2 s = some o) : ww C M_X3_next 3 0 0 nx (QI nx o.2 o.1) (XF) nx 0 0 2 [(0, .ref 78), (1, .ref r1), (2, vi x2)] [] (hp nx s) := by
  unfold Fi_next_l2 at hs
  refine bnd_e hs (fun s_6 hw hs => ?_)
  have hE : ww C M_X3_next 3 0 0 nx (QI nx o.2 o.1) (XF) nx 0 0 46 [(0, .ref 78)] [] (hp nx s_6) := by
    refine w_aload_n 0 dX3_next_46 rfl rfl ?_
    refine x_getR 3 1 (b := 5) dX3_next_47 (fxX3_15 rfl) rfl rfl (lt_of hnx (Nat.le_of_ble_eq_true rfl)) rfl ?_
    refine w_aload_n 0 dX3_next_50 rfl rfl ?_
    refine x_getR 3 2 (b := 79) dX3_next_51 (fxX3_19 rfl) rfl rfl (lt_of hnx (Nat.le_of_ble_eq_true rfl)) rfl ?_
    refine x_iconst dX3_next_54 ?_
    refine x_V_V M_X7_gather [.ref 79, vi 0] [] hs rfl dX3_next_55 (lkX3_44 _ rfl) (lt_of hnx (Nat.le_of_ble_eq_true rfl)) rfl rfl (Nat.le_of_ble_eq_true rfl) (Nat.le_of_ble_eq_true rfl) (Nat.le_of_ble_eq_true rfl) (Nat.le_of_ble_eq_true rfl) (c_Li_gather hnx 79 (Or.inl (rowW_of rfl (lt_of hnx (Nat.le_of_ble_eq_true rfl)))) 0 s_6) (fun s8 hs8 hs => ?_)
    refine w_aload_n 0 dX3_next_58 rfl rfl ?_
    refine x_getR 3 1 (b := 5) dX3_next_59 (fxX3_15 rfl) rfl rfl (lt_of hnx (Nat.le_of_ble_eq_true rfl)) rfl ?_
    refine x_V_I M_X7_joined [] [] hs rfl dX3_next_62 (lkX3_50 _ rfl) (lt_of hnx (Nat.le_of_ble_eq_true rfl)) rfl rfl (Nat.le_of_ble_eq_true rfl) (Nat.le_of_ble_eq_true rfl) (Nat.le_of_ble_eq_true rfl) (Nat.le_of_ble_eq_true rfl) (c_Li_joined hnx s8) (fun y9 hy9 hs => ?_)
    refine x_ifeq hs dX3_next_65 rfl (fun hs => ?_) (fun hs => ?_)
    · refine x_iconst dX3_next_72 ?_
      cases hs
      exact x_ireturn dX3_next_73 rfl rfl (Nat.le_of_ble_eq_true rfl) (Nat.le_of_ble_eq_true rfl) ⟨rfl, rfl⟩
    · refine x_iconst dX3_next_68 ?_
      refine w_goto dX3_next_69 rfl ?_
      cases hs
      exact x_ireturn dX3_next_73 rfl rfl (Nat.le_of_ble_eq_true rfl) (Nat.le_of_ble_eq_true rfl) ⟨rfl, rfl⟩
  refine whl_w (P := fun σ => ww C M_X3_next 3 0 0 nx (QI nx o.2 o.1) (XF) nx 0 0 2 [(0, .ref 78), (1, .ref r1), (2, vi σ.1)] [] (hp nx σ.2)) (E := fun ρ => ρ = s_6) hw rfl ?_
  intro σ o' hs' hb' he'
  exact q_Fi_next_t2 hnx r1 h_r1 σ.1 σ.2 hs' hb' (fun ρ e => by cases he' _ e; exact hE)
set_option maxRecDepth 100000 in
theorem c_Fi_next {C : Cx} {nx : Nat} (hnx : 80 ≤ nx) (r1 : Nat) (h_r1 : isRow nx r1) (s : Sg) : ∀ o, Fi_next r1 s = some o → mm C M_X3_next 3 0 0 nx nx [.ref 78, .ref r1] (hp nx s) (QI nx o.2 o.1) (XF) := by
  intro o hs
  unfold Fi_next at hs
  refine mm_of rfl rfl (Nat.le_of_ble_eq_true rfl) ?_
  show ww C M_X3_next 3 0 0 nx (QI nx o.2 o.1) (XF) nx 0 0 0 [(0, .ref 78), (1, .ref r1)] [] (hp nx s)
  refine x_iconst dX3_next_0 ?_
  refine w_istore_n (lv' := [(2, vi 0), (0, .ref 78), (1, .ref r1)]) dX3_next_1 rfl (Nat.le_of_ble_eq_true rfl) rfl ?_
  refine w_lv (lv' := [(0, .ref 78), (1, .ref r1), (2, vi 0)]) [1, 2, 0] rfl ?_
  exact q_Fi_next_l2 hnx r1 h_r1 0 s hs
set_option maxRecDepth 100000 in
theorem c_Hx_filled {C : Cx} {nx : Nat} (hnx : 80 ≤ nx) (x1 : Int) (s : Sg) : ∀ o, Hx_filled x1 s = some o → mm C M_X11_filled 10 0 0 nx nx [.ref 0, vi x1] (hp nx s) (QT nx o) (XF) := by
  intro o hs
  unfold Hx_filled at hs
  refine mm_of rfl rfl (Nat.le_of_ble_eq_true rfl) ?_
  show ww C M_X11_filled 10 0 0 nx (QT nx o) (XF) nx 0 0 0 [(0, .ref 0), (1, vi x1)] [] (hp nx s)
  refine w_iload_n 1 dX11_filled_0 rfl rfl ?_
  refine x_iconst dX11_filled_1 ?_
  refine x_ldcw 2147483647 dX11_filled_2 (csX11_299 rfl) ?_
  refine x_S_U M_X11_requireRange [vi x1, vi 0, vi 2147483647] [] hs rfl dX11_filled_5 (lkX11_190 _ rfl) (Nat.le_of_ble_eq_true rfl) (Nat.le_of_ble_eq_true rfl) (Nat.le_of_ble_eq_true rfl) (Nat.le_of_ble_eq_true rfl) (c_Hx_requireRange hnx x1 0 2147483647 s) (fun y1 s2 hy1 hs => ?_)
  refine w_aload_n 0 dX11_filled_8 rfl rfl ?_
  refine x_getR 11 15 (b := 78) dX11_filled_9 (fxX11_105 rfl) rfl rfl (lt_of hnx (Nat.le_of_ble_eq_true rfl)) rfl ?_
  refine w_iload_n 1 dX11_filled_12 rfl rfl ?_
  refine x_V_V M_X3_begin [vi x1] [] hs rfl dX11_filled_13 (lkX11_300 _ rfl) (lt_of hnx (Nat.le_of_ble_eq_true rfl)) rfl rfl (Nat.le_of_ble_eq_true rfl) (Nat.le_of_ble_eq_true rfl) (Nat.le_of_ble_eq_true rfl) (Nat.le_of_ble_eq_true rfl) (c_Fi_begin hnx x1 s2) (fun s4 hs4 hs => ?_)
  refine w_aload_n 0 dX11_filled_16 rfl rfl ?_
  refine x_getR 11 15 (b := 78) dX11_filled_17 (fxX11_105 rfl) rfl rfl (lt_of hnx (Nat.le_of_ble_eq_true rfl)) rfl ?_
  refine w_aload_n 0 dX11_filled_20 rfl rfl ?_
  refine x_getR 11 2 (b := 10) dX11_filled_21 (fxX11_28 rfl) rfl rfl (lt_of hnx (Nat.le_of_ble_eq_true rfl)) rfl ?_
  refine x_getR 9 0 (b := 11) dX11_filled_24 (fxX11_194 rfl) rfl rfl (lt_of hnx (Nat.le_of_ble_eq_true rfl)) rfl ?_
  refine x_V_B M_X3_next [.ref 11] [] hs rfl dX11_filled_27 (lkX11_301 _ rfl) (lt_of hnx (Nat.le_of_ble_eq_true rfl)) rfl rfl (Nat.le_of_ble_eq_true rfl) (Nat.le_of_ble_eq_true rfl) (Nat.le_of_ble_eq_true rfl) (Nat.le_of_ble_eq_true rfl) (c_Fi_next hnx 11 (Or.inl (rowW_of rfl (lt_of hnx (Nat.le_of_ble_eq_true rfl)))) s4) (fun y5 s6 hy5 hs => ?_)
  cases hs
  exact x_ireturn dX11_filled_30 rfl rfl (Nat.le_of_ble_eq_true rfl) (Nat.le_of_ble_eq_true rfl) ⟨_, rfl, rfl, rfl⟩
set_option maxRecDepth 100000 in
theorem q_Hx_fillings_b60 {C : Cx} {nx : Nat} (hnx : 80 ≤ nx) {Qr : Option Value → Hp → Prop} {Qx : String → Hp → Prop}  (x1 : Int) (x3 : Int) (x4 : Int) (x5 : Int) (s : Sg) {o : ((Int × Int × Sg) ⊕ (Int × Sg))} (hs : Hx_fillings_b60 x1 x3 x4 x5 s = some o) (hb : ∀ σ : Int × Int × Sg, o = .inl σ → ww C M_X11_fillings 10 0 0 nx (Qr) (Qx) nx 0 0 33 [(0, .ref 0), (1, vi x1), (3, vi x3), (4, vi σ.1), (5, vi σ.2.1)] [] (hp nx σ.2.2)) (he0 : ∀ ρ : Int × Sg, o = .inr ρ → ww C M_X11_fillings 10 0 0 nx (Qr) (Qx) nx 0 0 66 [(4, vi ρ.1)] [] (hp nx ρ.2)) : ww C M_X11_fillings 10 0 0 nx (Qr) (Qx) nx 0 0 60 [(0, .ref 0), (1, vi x1), (3, vi x3), (4, vi x4), (5, vi x5)] [] (hp nx s) := by
  unfold Hx_fillings_b60 at hs
  refine x_iinc (lv' := [(5, vi (x5 + 1)), (0, .ref 0), (1, vi x1), (3, vi x3), (4, vi x4)]) 4 dX11_fillings_60 rfl (Nat.le_of_ble_eq_true rfl) rfl ?_
  refine w_goto dX11_fillings_63 rfl ?_
  refine w_lv (lv' := [(0, .ref 0), (1, vi x1), (3, vi x3), (4, vi x4), (5, vi (x5 + 1))]) [1, 2, 3, 4, 0] rfl ?_
  cases hs
  exact hb _ rfl
set_option maxRecDepth 100000 in
theorem q_Hx_fillings_t33 {C : Cx} {nx : Nat} (hnx : 80 ≤ nx) {Qr : Option Value → Hp → Prop} {Qx : String → Hp → Prop}  (x1 : Int) (x3 : Int) (x4 : Int) (x5 : Int) (s : Sg) {o : ((Int × Int × Sg) ⊕ (Int × Sg))} (hs : Hx_fillings_t33 x1 x3 x4 x5 s = some o) (hb : ∀ σ : Int × Int × Sg, o = .inl σ → ww C M_X11_fillings 10 0 0 nx (Qr) (Qx) nx 0 0 33 [(0, .ref 0), (1, vi x1), (3, vi x3), (4, vi σ.1), (5, vi σ.2.1)] [] (hp nx σ.2.2)) (he0 : ∀ ρ : Int × Sg, o = .inr ρ → ww C M_X11_fillings 10 0 0 nx (Qr) (Qx) nx 0 0 66 [(4, vi ρ.1)] [] (hp nx ρ.2)) : ww C M_X11_fillings 10 0 0 nx (Qr) (Qx) nx 0 0 33 [(0, .ref 0), (1, vi x1), (3, vi x3), (4, vi x4), (5, vi x5)] [] (hp nx s) := by
  unfold Hx_fillings_t33 at hs
  refine w_iload 4 dX11_fillings_33 rfl ?_
  refine w_iload_n 2 dX11_fillings_35 rfl rfl ?_
  refine x_icmpge hs dX11_fillings_36 rfl (fun hs => ?_) (fun hs => ?_)
  · refine w_lv (lv' := [(4, vi x4)]) [3] rfl ?_
    cases hs
    exact he0 _ rfl
  · refine w_aload_n 0 dX11_fillings_39 rfl rfl ?_
    refine x_getR 11 15 (b := 78) dX11_fillings_40 (fxX11_105 rfl) rfl rfl (lt_of hnx (Nat.le_of_ble_eq_true rfl)) rfl ?_
    refine w_aload_n 0 dX11_fillings_43 rfl rfl ?_
    refine x_getR 11 2 (b := 10) dX11_fillings_44 (fxX11_28 rfl) rfl rfl (lt_of hnx (Nat.le_of_ble_eq_true rfl)) rfl ?_
    refine x_getR 9 0 (b := 11) dX11_fillings_47 (fxX11_194 rfl) rfl rfl (lt_of hnx (Nat.le_of_ble_eq_true rfl)) rfl ?_
    refine x_V_B M_X3_next [.ref 11] [] hs rfl dX11_fillings_50 (lkX11_301 _ rfl) (lt_of hnx (Nat.le_of_ble_eq_true rfl)) rfl rfl (Nat.le_of_ble_eq_true rfl) (Nat.le_of_ble_eq_true rfl) (Nat.le_of_ble_eq_true rfl) (Nat.le_of_ble_eq_true rfl) (c_Fi_next hnx 11 (Or.inl (rowW_of rfl (lt_of hnx (Nat.le_of_ble_eq_true rfl)))) s) (fun y9 s10 hy9 hs => ?_)
    refine w_iload_n 1 dX11_fillings_53 rfl rfl ?_
    refine x_icmpne hs dX11_fillings_54 rfl (fun hs => ?_) (fun hs => ?_)
    · exact q_Hx_fillings_b60 hnx x1 x3 x4 x5 s10 hs hb he0
    · refine x_iinc (lv' := [(4, vi (x4 + 1)), (0, .ref 0), (1, vi x1), (3, vi x3), (5, vi x5)]) 3 dX11_fillings_57 rfl (Nat.le_of_ble_eq_true rfl) rfl ?_
      refine w_lv (lv' := [(0, .ref 0), (1, vi x1), (3, vi x3), (4, vi (x4 + 1)), (5, vi x5)]) [1, 2, 3, 0, 4] rfl ?_
      exact q_Hx_fillings_b60 hnx x1 x3 (x4 + 1) x5 s10 hs hb he0
set_option maxRecDepth 100000 in
theorem q_Hx_fillings_l33 {C : Cx} {nx : Nat} (hnx : 80 ≤ nx) (x1 : Int) (x3 : Int) (x4 : Int) (x5 : Int) (s : Sg) {o : (Nat ⊕ Int) × Sg} (hs : Hx_fillings_l33 x1 x3 x4 x5 s = some o) : ww C M_X11_fillings 10 0 0 nx (QT nx o) (XF) nx 0 0 33 [(0, .ref 0), (1, vi x1), (3, vi x3), (4, vi x4), (5, vi x5)] [] (hp nx s) := by
  unfold Hx_fillings_l33 at hs
  refine bnd_e hs (fun ρ hw hs => ?_)
  obtain ⟨x4_11, s_12⟩ := ρ
  have hE : ww C M_X11_fillings 10 0 0 nx (QT nx o) (XF) nx 0 0 66 [(4, vi x4_11)] [] (hp nx s_12) := by
    refine w_iload 0 dX11_fillings_66 rfl ?_
    cases hs
    exact x_ireturn dX11_fillings_68 rfl rfl (Nat.le_of_ble_eq_true rfl) (Nat.le_of_ble_eq_true rfl) ⟨_, rfl, rfl, rfl⟩
  refine whl_w (P := fun σ => ww C M_X11_fillings 10 0 0 nx (QT nx o) (XF) nx 0 0 33 [(0, .ref 0), (1, vi x1), (3, vi x3), (4, vi σ.1), (5, vi σ.2.1)] [] (hp nx σ.2.2)) (E := fun ρ => ρ = (x4_11, s_12)) hw rfl ?_
  intro σ o' hs' hb' he'
  exact q_Hx_fillings_t33 hnx x1 x3 σ.1 σ.2.1 σ.2.2 hs' hb' (fun ρ e => by cases he' _ e; exact hE)
set_option maxRecDepth 100000 in
theorem c_Hx_fillings {C : Cx} {nx : Nat} (hnx : 80 ≤ nx) (x1 : Int) (x2 : Int) (x3 : Int) (s : Sg) : ∀ o, Hx_fillings x1 x2 x3 s = some o → mm C M_X11_fillings 10 0 0 nx nx [.ref 0, vi x1, vi x2, vi x3] (hp nx s) (QT nx o) (XF) := by
  intro o hs
  unfold Hx_fillings at hs
  refine mm_of rfl rfl (Nat.le_of_ble_eq_true rfl) ?_
  show ww C M_X11_fillings 10 0 0 nx (QT nx o) (XF) nx 0 0 0 [(0, .ref 0), (1, vi x1), (2, vi x2), (3, vi x3)] [] (hp nx s)
  refine w_iload_n 1 dX11_fillings_0 rfl rfl ?_
  refine x_S_U M_X11_requireSide [vi x1] [] hs rfl dX11_fillings_1 (lkX11_211 _ rfl) (Nat.le_of_ble_eq_true rfl) (Nat.le_of_ble_eq_true rfl) (Nat.le_of_ble_eq_true rfl) (Nat.le_of_ble_eq_true rfl) (c_Hx_requireSide hnx x1 s) (fun y1 s2 hy1 hs => ?_)
  refine w_iload_n 2 dX11_fillings_4 rfl rfl ?_
  refine x_iconst dX11_fillings_5 ?_
  refine x_ldcw 2147483647 dX11_fillings_6 (csX11_299 rfl) ?_
  refine x_S_U M_X11_requireRange [vi x2, vi 0, vi 2147483647] [] hs rfl dX11_fillings_9 (lkX11_190 _ rfl) (Nat.le_of_ble_eq_true rfl) (Nat.le_of_ble_eq_true rfl) (Nat.le_of_ble_eq_true rfl) (Nat.le_of_ble_eq_true rfl) (c_Hx_requireRange hnx x2 0 2147483647 s2) (fun y3 s4 hy3 hs => ?_)
  refine w_iload_n 3 dX11_fillings_12 rfl rfl ?_
  refine x_iconst dX11_fillings_13 ?_
  refine x_bipush dX11_fillings_14 (by decide) ?_
  refine x_S_U M_X11_requireRange [vi x3, vi 1, vi 100] [] hs rfl dX11_fillings_16 (lkX11_190 _ rfl) (Nat.le_of_ble_eq_true rfl) (Nat.le_of_ble_eq_true rfl) (Nat.le_of_ble_eq_true rfl) (Nat.le_of_ble_eq_true rfl) (c_Hx_requireRange hnx x3 1 100 s4) (fun y5 s6 hy5 hs => ?_)
  refine w_aload_n 0 dX11_fillings_19 rfl rfl ?_
  refine x_getR 11 15 (b := 78) dX11_fillings_20 (fxX11_105 rfl) rfl rfl (lt_of hnx (Nat.le_of_ble_eq_true rfl)) rfl ?_
  refine w_iload_n 2 dX11_fillings_23 rfl rfl ?_
  refine x_V_V M_X3_begin [vi x2] [] hs rfl dX11_fillings_24 (lkX11_300 _ rfl) (lt_of hnx (Nat.le_of_ble_eq_true rfl)) rfl rfl (Nat.le_of_ble_eq_true rfl) (Nat.le_of_ble_eq_true rfl) (Nat.le_of_ble_eq_true rfl) (Nat.le_of_ble_eq_true rfl) (c_Fi_begin hnx x2 s6) (fun s8 hs8 hs => ?_)
  refine x_iconst dX11_fillings_27 ?_
  refine w_istore (lv' := [(4, vi 0), (0, .ref 0), (1, vi x1), (2, vi x2), (3, vi x3)]) dX11_fillings_28 (Nat.le_of_ble_eq_true rfl) rfl ?_
  refine x_iconst dX11_fillings_30 ?_
  refine w_istore (lv' := [(5, vi 0), (4, vi 0), (0, .ref 0), (1, vi x1), (2, vi x2), (3, vi x3)]) dX11_fillings_31 (Nat.le_of_ble_eq_true rfl) rfl ?_
  refine w_lv (lv' := [(0, .ref 0), (1, vi x1), (3, vi x3), (4, vi 0), (5, vi 0)]) [2, 3, 5, 1, 0] rfl ?_
  exact q_Hx_fillings_l33 hnx x1 x3 0 0 s8 hs
set_option maxRecDepth 100000 in
theorem q_Fi_countIdle_b85 {C : Cx} {nx : Nat} (hnx : 80 ≤ nx) {Qr : Option Value → Hp → Prop} {Qx : String → Hp → Prop}  (r1 : Nat) (h_r1 : isRow nx r1) (x2 : Int) (x4 : Int) (x5 : Int) (s : Sg) {o : ((Int × Int) ⊕ (Int))} (hs : Fi_countIdle_b85 r1 x2 x4 x5 s = some o) (hb : ∀ σ : Int × Int, o = .inl σ → ww C M_X3_countIdle 3 0 0 nx (Qr) (Qx) nx 0 0 23 [(0, .ref 78), (1, .ref r1), (2, vi x2), (4, vi σ.1), (5, vi σ.2)] [] (hp nx s)) (he0 : ∀ ρ : Int, o = .inr ρ → ww C M_X3_countIdle 3 0 0 nx (Qr) (Qx) nx 0 0 91 [(4, vi ρ)] [] (hp nx s)) : ww C M_X3_countIdle 3 0 0 nx (Qr) (Qx) nx 0 0 85 [(0, .ref 78), (1, .ref r1), (2, vi x2), (4, vi x4), (5, vi x5)] [] (hp nx s) := by
  unfold Fi_countIdle_b85 at hs
  refine x_iinc (lv' := [(5, vi (x5 + 1)), (0, .ref 78), (1, .ref r1), (2, vi x2), (4, vi x4)]) 4 dX3_countIdle_85 rfl (Nat.le_of_ble_eq_true rfl) rfl ?_
  refine w_goto dX3_countIdle_88 rfl ?_
  refine w_lv (lv' := [(0, .ref 78), (1, .ref r1), (2, vi x2), (4, vi x4), (5, vi (x5 + 1))]) [1, 2, 3, 4, 0] rfl ?_
  cases hs
  exact hb _ rfl
set_option maxRecDepth 100000 in
theorem q_Fi_countIdle_b65 {C : Cx} {nx : Nat} (hnx : 80 ≤ nx) {Qr : Option Value → Hp → Prop} {Qx : String → Hp → Prop}  (r1 : Nat) (h_r1 : isRow nx r1) (x2 : Int) (x4 : Int) (x5 : Int) (t0 : Int) (s : Sg) {o : ((Int × Int) ⊕ (Int))} (hs : Fi_countIdle_b65 r1 x2 x4 x5 t0 s = some o) (hb : ∀ σ : Int × Int, o = .inl σ → ww C M_X3_countIdle 3 0 0 nx (Qr) (Qx) nx 0 0 23 [(0, .ref 78), (1, .ref r1), (2, vi x2), (4, vi σ.1), (5, vi σ.2)] [] (hp nx s)) (he0 : ∀ ρ : Int, o = .inr ρ → ww C M_X3_countIdle 3 0 0 nx (Qr) (Qx) nx 0 0 91 [(4, vi ρ)] [] (hp nx s)) : ww C M_X3_countIdle 3 0 0 nx (Qr) (Qx) nx 0 0 65 [(0, .ref 78), (1, .ref r1), (2, vi x2), (4, vi x4), (5, vi x5)] [vi t0] (hp nx s) := by
  unfold Fi_countIdle_b65 at hs
  refine w_istore (lv' := [(6, vi t0), (0, .ref 78), (1, .ref r1), (2, vi x2), (4, vi x4), (5, vi x5)]) dX3_countIdle_65 (Nat.le_of_ble_eq_true rfl) rfl ?_
  refine w_aload_n 2 dX3_countIdle_67 rfl rfl ?_
  refine w_iload 5 dX3_countIdle_68 rfl ?_
  refine x_N_I M_X11_at [.ref r1, vi x5] [] hs rfl dX3_countIdle_70 (lkX3_32 _ rfl) (Nat.le_of_ble_eq_true rfl) (Nat.le_of_ble_eq_true rfl) (Nat.le_of_ble_eq_true rfl) (Nat.le_of_ble_eq_true rfl) (c_Hx_at hnx r1 h_r1 x5 s) (fun y5 hy5 hs => ?_)
  refine x_iconst dX3_countIdle_73 ?_
  refine x_icmpne hs dX3_countIdle_74 rfl (fun hs => ?_) (fun hs => ?_)
  · refine w_lv (lv' := [(0, .ref 78), (1, .ref r1), (2, vi x2), (4, vi x4), (5, vi x5)]) [1, 2, 3, 4, 5] rfl ?_
    exact q_Fi_countIdle_b85 hnx r1 h_r1 x2 x4 x5 s hs hb he0
  · refine w_iload 0 dX3_countIdle_77 rfl ?_
    refine x_ifne hs dX3_countIdle_79 rfl (fun hs => ?_) (fun hs => ?_)
    · refine w_lv (lv' := [(0, .ref 78), (1, .ref r1), (2, vi x2), (4, vi x4), (5, vi x5)]) [1, 2, 3, 4, 5] rfl ?_
      exact q_Fi_countIdle_b85 hnx r1 h_r1 x2 x4 x5 s hs hb he0
    · refine x_iinc (lv' := [(4, vi (x4 + 1)), (6, vi t0), (0, .ref 78), (1, .ref r1), (2, vi x2), (5, vi x5)]) 4 dX3_countIdle_82 rfl (Nat.le_of_ble_eq_true rfl) rfl ?_
      refine w_lv (lv' := [(0, .ref 78), (1, .ref r1), (2, vi x2), (4, vi (x4 + 1)), (5, vi x5)]) [2, 3, 4, 0, 5] rfl ?_
      exact q_Fi_countIdle_b85 hnx r1 h_r1 x2 (x4 + 1) x5 s hs hb he0
set_option maxRecDepth 100000 in
theorem q_Fi_countIdle_b64 {C : Cx} {nx : Nat} (hnx : 80 ≤ nx) {Qr : Option Value → Hp → Prop} {Qx : String → Hp → Prop}  (r1 : Nat) (h_r1 : isRow nx r1) (x2 : Int) (x4 : Int) (x5 : Int) (s : Sg) {o : ((Int × Int) ⊕ (Int))} (hs : Fi_countIdle_b64 r1 x2 x4 x5 s = some o) (hb : ∀ σ : Int × Int, o = .inl σ → ww C M_X3_countIdle 3 0 0 nx (Qr) (Qx) nx 0 0 23 [(0, .ref 78), (1, .ref r1), (2, vi x2), (4, vi σ.1), (5, vi σ.2)] [] (hp nx s)) (he0 : ∀ ρ : Int, o = .inr ρ → ww C M_X3_countIdle 3 0 0 nx (Qr) (Qx) nx 0 0 91 [(4, vi ρ)] [] (hp nx s)) : ww C M_X3_countIdle 3 0 0 nx (Qr) (Qx) nx 0 0 64 [(0, .ref 78), (1, .ref r1), (2, vi x2), (4, vi x4), (5, vi x5)] [] (hp nx s) := by
  unfold Fi_countIdle_b64 at hs
  refine x_iconst dX3_countIdle_64 ?_
  exact q_Fi_countIdle_b65 hnx r1 h_r1 x2 x4 x5 0 s hs hb he0
set_option maxRecDepth 100000 in
theorem q_Fi_countIdle_t23 {C : Cx} {nx : Nat} (hnx : 80 ≤ nx) {Qr : Option Value → Hp → Prop} {Qx : String → Hp → Prop}  (r1 : Nat) (h_r1 : isRow nx r1) (x2 : Int) (x4 : Int) (x5 : Int) (s : Sg) {o : ((Int × Int) ⊕ (Int))} (hs : Fi_countIdle_t23 r1 x2 x4 x5 s = some o) (hb : ∀ σ : Int × Int, o = .inl σ → ww C M_X3_countIdle 3 0 0 nx (Qr) (Qx) nx 0 0 23 [(0, .ref 78), (1, .ref r1), (2, vi x2), (4, vi σ.1), (5, vi σ.2)] [] (hp nx s)) (he0 : ∀ ρ : Int, o = .inr ρ → ww C M_X3_countIdle 3 0 0 nx (Qr) (Qx) nx 0 0 91 [(4, vi ρ)] [] (hp nx s)) : ww C M_X3_countIdle 3 0 0 nx (Qr) (Qx) nx 0 0 23 [(0, .ref 78), (1, .ref r1), (2, vi x2), (4, vi x4), (5, vi x5)] [] (hp nx s) := by
  unfold Fi_countIdle_t23 at hs
  refine w_iload 4 dX3_countIdle_23 rfl ?_
  refine w_aload_n 0 dX3_countIdle_25 rfl rfl ?_
  refine x_getR 3 0 (b := 1) dX3_countIdle_26 (fxX3_9 rfl) rfl rfl (lt_of hnx (Nat.le_of_ble_eq_true rfl)) rfl ?_
  refine x_getI 5 4 dX3_countIdle_29 (fxX3_27 rfl) rfl rfl (lt_of hnx (Nat.le_of_ble_eq_true rfl)) ?_
  refine x_icmpge hs dX3_countIdle_32 rfl (fun hs => ?_) (fun hs => ?_)
  · refine w_lv (lv' := [(4, vi x4)]) [3] rfl ?_
    cases hs
    exact he0 _ rfl
  · refine w_aload_n 0 dX3_countIdle_35 rfl rfl ?_
    refine x_getR 3 2 (b := 79) dX3_countIdle_36 (fxX3_19 rfl) rfl rfl (lt_of hnx (Nat.le_of_ble_eq_true rfl)) rfl ?_
    refine w_iload 4 dX3_countIdle_39 rfl ?_
    refine x_N_I M_X11_at [.ref 79, vi x5] [] hs rfl dX3_countIdle_41 (lkX3_32 _ rfl) (Nat.le_of_ble_eq_true rfl) (Nat.le_of_ble_eq_true rfl) (Nat.le_of_ble_eq_true rfl) (Nat.le_of_ble_eq_true rfl) (c_Hx_at hnx 79 (Or.inl (rowW_of rfl (lt_of hnx (Nat.le_of_ble_eq_true rfl)))) x5 s) (fun y4 hy4 hs => ?_)
    refine w_iload_n 2 dX3_countIdle_44 rfl rfl ?_
    refine x_icmpne hs dX3_countIdle_45 rfl (fun hs => ?_) (fun hs => ?_)
    · exact q_Fi_countIdle_b64 hnx r1 h_r1 x2 x4 x5 s hs hb he0
    · refine w_aload_n 0 dX3_countIdle_48 rfl rfl ?_
      refine x_getR 3 1 (b := 5) dX3_countIdle_49 (fxX3_15 rfl) rfl rfl (lt_of hnx (Nat.le_of_ble_eq_true rfl)) rfl ?_
      refine w_iload 4 dX3_countIdle_52 rfl ?_
      refine x_V_I M_X7_joinsBy [vi x5] [] hs rfl dX3_countIdle_54 (lkX3_61 _ rfl) (lt_of hnx (Nat.le_of_ble_eq_true rfl)) rfl rfl (Nat.le_of_ble_eq_true rfl) (Nat.le_of_ble_eq_true rfl) (Nat.le_of_ble_eq_true rfl) (Nat.le_of_ble_eq_true rfl) (c_Li_joinsBy hnx x5 s) (fun y6 hy6 hs => ?_)
      refine x_ifeq hs dX3_countIdle_57 rfl (fun hs => ?_) (fun hs => ?_)
      · exact q_Fi_countIdle_b64 hnx r1 h_r1 x2 x4 x5 s hs hb he0
      · refine x_iconst dX3_countIdle_60 ?_
        refine w_goto dX3_countIdle_61 rfl ?_
        exact q_Fi_countIdle_b65 hnx r1 h_r1 x2 x4 x5 1 s hs hb he0
set_option maxRecDepth 100000 in
theorem q_Fi_countIdle_l23 {C : Cx} {nx : Nat} (hnx : 80 ≤ nx) (r1 : Nat) (h_r1 : isRow nx r1) (x2 : Int) (x4 : Int) (x5 : Int) (s : Sg) {o : Int × Sg} (hs : Fi_countIdle_l23 r1 x2 x4 x5 s = some o) : ww C M_X3_countIdle 3 0 0 nx (QI nx o.2 o.1) (XF) nx 0 0 23 [(0, .ref 78), (1, .ref r1), (2, vi x2), (4, vi x4), (5, vi x5)] [] (hp nx s) := by
  unfold Fi_countIdle_l23 at hs
  refine bnd_e hs (fun x4_7 hw hs => ?_)
  have hE : ww C M_X3_countIdle 3 0 0 nx (QI nx o.2 o.1) (XF) nx 0 0 91 [(4, vi x4_7)] [] (hp nx s) := by
    refine w_iload 0 dX3_countIdle_91 rfl ?_
    cases hs
    exact x_ireturn dX3_countIdle_93 rfl rfl (Nat.le_of_ble_eq_true rfl) (Nat.le_of_ble_eq_true rfl) ⟨rfl, rfl⟩
  refine whl_w (P := fun σ => ww C M_X3_countIdle 3 0 0 nx (QI nx o.2 o.1) (XF) nx 0 0 23 [(0, .ref 78), (1, .ref r1), (2, vi x2), (4, vi σ.1), (5, vi σ.2)] [] (hp nx s)) (E := fun ρ => ρ = x4_7) hw rfl ?_
  intro σ o' hs' hb' he'
  exact q_Fi_countIdle_t23 hnx r1 h_r1 x2 σ.1 σ.2 s hs' hb' (fun ρ e => by cases he' _ e; exact hE)
set_option maxRecDepth 100000 in
theorem c_Fi_countIdle {C : Cx} {nx : Nat} (hnx : 80 ≤ nx) (r1 : Nat) (h_r1 : isRow nx r1) (x2 : Int) (s : Sg) : ∀ o, Fi_countIdle r1 x2 s = some o → mm C M_X3_countIdle 3 0 0 nx nx [.ref 78, .ref r1, vi x2] (hp nx s) (QI nx o.2 o.1) (XF) := by
  intro o hs
  unfold Fi_countIdle at hs
  refine mm_of rfl rfl (Nat.le_of_ble_eq_true rfl) ?_
  show ww C M_X3_countIdle 3 0 0 nx (QI nx o.2 o.1) (XF) nx 0 0 0 [(0, .ref 78), (1, .ref r1), (2, vi x2)] [] (hp nx s)
  refine w_iload_n 2 dX3_countIdle_0 rfl rfl ?_
  refine x_N_I M_X11_otherSide [vi x2] [] hs rfl dX3_countIdle_1 (lkX3_57 _ rfl) (Nat.le_of_ble_eq_true rfl) (Nat.le_of_ble_eq_true rfl) (Nat.le_of_ble_eq_true rfl) (Nat.le_of_ble_eq_true rfl) (c_Hx_otherSide hnx x2 s) (fun y1 hy1 hs => ?_)
  refine w_istore_n (lv' := [(3, vi y1), (0, .ref 78), (1, .ref r1), (2, vi x2)]) dX3_countIdle_4 rfl (Nat.le_of_ble_eq_true rfl) rfl ?_
  refine w_aload_n 1 dX3_countIdle_5 rfl rfl ?_
  refine x_getR 3 1 (b := 5) dX3_countIdle_6 (fxX3_15 rfl) rfl rfl (lt_of hnx (Nat.le_of_ble_eq_true rfl)) rfl ?_
  refine w_aload_n 1 dX3_countIdle_9 rfl rfl ?_
  refine x_getR 3 2 (b := 79) dX3_countIdle_10 (fxX3_19 rfl) rfl rfl (lt_of hnx (Nat.le_of_ble_eq_true rfl)) rfl ?_
  refine w_iload_n 0 dX3_countIdle_13 rfl rfl ?_
  refine x_V_V M_X7_gather [.ref 79, vi y1] [] hs rfl dX3_countIdle_14 (lkX3_44 _ rfl) (lt_of hnx (Nat.le_of_ble_eq_true rfl)) rfl rfl (Nat.le_of_ble_eq_true rfl) (Nat.le_of_ble_eq_true rfl) (Nat.le_of_ble_eq_true rfl) (Nat.le_of_ble_eq_true rfl) (c_Li_gather hnx 79 (Or.inl (rowW_of rfl (lt_of hnx (Nat.le_of_ble_eq_true rfl)))) y1 s) (fun s3 hs3 hs => ?_)
  refine x_iconst dX3_countIdle_17 ?_
  refine w_istore (lv' := [(4, vi 0), (3, vi y1), (0, .ref 78), (1, .ref r1), (2, vi x2)]) dX3_countIdle_18 (Nat.le_of_ble_eq_true rfl) rfl ?_
  refine x_iconst dX3_countIdle_20 ?_
  refine w_istore (lv' := [(5, vi 0), (4, vi 0), (3, vi y1), (0, .ref 78), (1, .ref r1), (2, vi x2)]) dX3_countIdle_21 (Nat.le_of_ble_eq_true rfl) rfl ?_
  refine w_lv (lv' := [(0, .ref 78), (1, .ref r1), (2, vi x2), (4, vi 0), (5, vi 0)]) [3, 4, 5, 1, 0] rfl ?_
  exact q_Fi_countIdle_l23 hnx r1 h_r1 x2 0 0 s3 hs
set_option maxRecDepth 100000 in
theorem c_Hx_idle {C : Cx} {nx : Nat} (hnx : 80 ≤ nx) (x1 : Int) (s : Sg) : ∀ o, Hx_idle x1 s = some o → mm C M_X11_idle 10 0 0 nx nx [.ref 0, vi x1] (hp nx s) (QT nx o) (XF) := by
  intro o hs
  unfold Hx_idle at hs
  refine mm_of rfl rfl (Nat.le_of_ble_eq_true rfl) ?_
  show ww C M_X11_idle 10 0 0 nx (QT nx o) (XF) nx 0 0 0 [(0, .ref 0), (1, vi x1)] [] (hp nx s)
  refine w_iload_n 1 dX11_idle_0 rfl rfl ?_
  refine x_iconst dX11_idle_1 ?_
  refine x_ldcw 2147483647 dX11_idle_2 (csX11_299 rfl) ?_
  refine x_S_U M_X11_requireRange [vi x1, vi 0, vi 2147483647] [] hs rfl dX11_idle_5 (lkX11_190 _ rfl) (Nat.le_of_ble_eq_true rfl) (Nat.le_of_ble_eq_true rfl) (Nat.le_of_ble_eq_true rfl) (Nat.le_of_ble_eq_true rfl) (c_Hx_requireRange hnx x1 0 2147483647 s) (fun y1 s2 hy1 hs => ?_)
  refine w_aload_n 0 dX11_idle_8 rfl rfl ?_
  refine x_getR 11 15 (b := 78) dX11_idle_9 (fxX11_105 rfl) rfl rfl (lt_of hnx (Nat.le_of_ble_eq_true rfl)) rfl ?_
  refine w_iload_n 1 dX11_idle_12 rfl rfl ?_
  refine x_V_V M_X3_begin [vi x1] [] hs rfl dX11_idle_13 (lkX11_300 _ rfl) (lt_of hnx (Nat.le_of_ble_eq_true rfl)) rfl rfl (Nat.le_of_ble_eq_true rfl) (Nat.le_of_ble_eq_true rfl) (Nat.le_of_ble_eq_true rfl) (Nat.le_of_ble_eq_true rfl) (c_Fi_begin hnx x1 s2) (fun s4 hs4 hs => ?_)
  refine w_aload_n 0 dX11_idle_16 rfl rfl ?_
  refine x_getR 11 15 (b := 78) dX11_idle_17 (fxX11_105 rfl) rfl rfl (lt_of hnx (Nat.le_of_ble_eq_true rfl)) rfl ?_
  refine w_aload_n 0 dX11_idle_20 rfl rfl ?_
  refine x_getR 11 2 (b := 10) dX11_idle_21 (fxX11_28 rfl) rfl rfl (lt_of hnx (Nat.le_of_ble_eq_true rfl)) rfl ?_
  refine x_getR 9 0 (b := 11) dX11_idle_24 (fxX11_194 rfl) rfl rfl (lt_of hnx (Nat.le_of_ble_eq_true rfl)) rfl ?_
  refine x_V_B M_X3_next [.ref 11] [] hs rfl dX11_idle_27 (lkX11_301 _ rfl) (lt_of hnx (Nat.le_of_ble_eq_true rfl)) rfl rfl (Nat.le_of_ble_eq_true rfl) (Nat.le_of_ble_eq_true rfl) (Nat.le_of_ble_eq_true rfl) (Nat.le_of_ble_eq_true rfl) (c_Fi_next hnx 11 (Or.inl (rowW_of rfl (lt_of hnx (Nat.le_of_ble_eq_true rfl)))) s4) (fun y5 s6 hy5 hs => ?_)
  refine w_istore_n (lv' := [(2, vi y5), (0, .ref 0), (1, vi x1)]) dX11_idle_30 rfl (Nat.le_of_ble_eq_true rfl) rfl ?_
  refine w_aload_n 1 dX11_idle_31 rfl rfl ?_
  refine x_getR 11 15 (b := 78) dX11_idle_32 (fxX11_105 rfl) rfl rfl (lt_of hnx (Nat.le_of_ble_eq_true rfl)) rfl ?_
  refine w_aload_n 1 dX11_idle_35 rfl rfl ?_
  refine x_getR 11 2 (b := 10) dX11_idle_36 (fxX11_28 rfl) rfl rfl (lt_of hnx (Nat.le_of_ble_eq_true rfl)) rfl ?_
  refine x_getR 9 0 (b := 11) dX11_idle_39 (fxX11_194 rfl) rfl rfl (lt_of hnx (Nat.le_of_ble_eq_true rfl)) rfl ?_
  refine w_iload_n 0 dX11_idle_42 rfl rfl ?_
  refine x_V_B M_X3_countIdle [.ref 11, vi y5] [] hs rfl dX11_idle_43 (lkX11_305 _ rfl) (lt_of hnx (Nat.le_of_ble_eq_true rfl)) rfl rfl (Nat.le_of_ble_eq_true rfl) (Nat.le_of_ble_eq_true rfl) (Nat.le_of_ble_eq_true rfl) (Nat.le_of_ble_eq_true rfl) (c_Fi_countIdle hnx 11 (Or.inl (rowW_of rfl (lt_of hnx (Nat.le_of_ble_eq_true rfl)))) y5 s6) (fun y7 s8 hy7 hs => ?_)
  cases hs
  exact x_ireturn dX11_idle_46 rfl rfl (Nat.le_of_ble_eq_true rfl) (Nat.le_of_ble_eq_true rfl) ⟨_, rfl, rfl, rfl⟩
set_option maxRecDepth 100000 in
theorem c_Hx_moveAt {C : Cx} {nx : Nat} (hnx : 80 ≤ nx) (x1 : Int) (s : Sg) : ∀ o, Hx_moveAt x1 s = some o → mm C M_X11_moveAt 2 0 0 nx nx [.ref 0, vi x1] (hp nx s) (QI nx s o) (XF) := by
  intro o hs
  unfold Hx_moveAt at hs
  refine mm_of rfl rfl (Nat.le_of_ble_eq_true rfl) ?_
  show ww C M_X11_moveAt 2 0 0 nx (QI nx s o) (XF) nx 0 0 0 [(0, .ref 0), (1, vi x1)] [] (hp nx s)
  refine w_aload_n 0 dX11_moveAt_0 rfl rfl ?_
  refine x_getR 11 2 (b := 10) dX11_moveAt_1 (fxX11_28 rfl) rfl rfl (lt_of hnx (Nat.le_of_ble_eq_true rfl)) rfl ?_
  refine w_iload_n 1 dX11_moveAt_4 rfl rfl ?_
  refine x_V_I M_X9_moved [vi x1] [] hs rfl dX11_moveAt_5 (lkX11_309 _ rfl) (lt_of hnx (Nat.le_of_ble_eq_true rfl)) rfl rfl (Nat.le_of_ble_eq_true rfl) (Nat.le_of_ble_eq_true rfl) (Nat.le_of_ble_eq_true rfl) (Nat.le_of_ble_eq_true rfl) (c_Po_moved hnx 10 (show 10 ∈ posL by decide) x1 s) (fun y1 hy1 hs => ?_)
  cases hs
  exact x_ireturn dX11_moveAt_8 rfl rfl (Nat.le_of_ble_eq_true rfl) (Nat.le_of_ble_eq_true rfl) ⟨rfl, rfl⟩
set_option maxRecDepth 100000 in
theorem q_Hi_latest_b23 {C : Cx} {nx : Nat} (hnx : 80 ≤ nx)  (s : Sg) {o : Nat} (hs : Hi_latest_b23  s = some o) : ww C M_X6_latest 0 0 0 nx (QA nx s o) (XF) nx 0 0 23 [] [] (hp nx s) := by
  unfold Hi_latest_b23 at hs
  refine w_null dX6_latest_23 ?_
  refine w_goto dX6_latest_24 rfl ?_
  cases hs
set_option maxRecDepth 100000 in
theorem c_Hi_latest {C : Cx} {nx : Nat} (hnx : 80 ≤ nx) (x1 : Int) (s : Sg) : ∀ o, Hi_latest x1 s = some o → mm C M_X6_latest 0 0 0 nx nx [.ref 16, vi x1] (hp nx s) (QA nx s o) (XF) := by
  intro o hs
  unfold Hi_latest at hs
  refine mm_of rfl rfl (Nat.le_of_ble_eq_true rfl) ?_
  show ww C M_X6_latest 0 0 0 nx (QA nx s o) (XF) nx 0 0 0 [(0, .ref 16), (1, vi x1)] [] (hp nx s)
  refine w_aload_n 0 dX6_latest_0 rfl rfl ?_
  refine x_getI 6 1 dX6_latest_1 (fxX6_22 rfl) rfl rfl (lt_of hnx (Nat.le_of_ble_eq_true rfl)) ?_
  refine w_iload_n 1 dX6_latest_4 rfl rfl ?_
  refine x_iadd dX6_latest_5 ?_
  refine x_bipush dX6_latest_6 (by decide) ?_
  refine grd_e hs (fun hg1 hs => ?_)
  refine x_irem dX6_latest_8 ⟨hg1.1, by decide, hg1.2.2⟩ ?_
  refine x_istore_n (fun x2_2 => [(2, vi x2_2), (0, .ref 16), (1, vi x1)]) hs dX6_latest_9 rfl (Nat.le_of_ble_eq_true rfl) (fun _ => rfl) (fun x2_2 hs => ?_)
  refine w_iload_n 0 dX6_latest_10 rfl rfl ?_
  refine x_iflt hs dX6_latest_11 rfl (fun hs => ?_) (fun hs => ?_)
  · refine w_lv (lv' := []) [] rfl ?_
    exact q_Hi_latest_b23 hnx  s hs
  · refine w_iload_n 0 dX6_latest_14 rfl rfl ?_
    refine w_aload_n 1 dX6_latest_15 rfl rfl ?_
    refine x_getR 6 0 (b := 17) dX6_latest_16 (fxX6_11 rfl) rfl rfl (lt_of hnx (Nat.le_of_ble_eq_true rfl)) rfl ?_
    refine x_alenq dX6_latest_19 rfl (lt_of hnx (Nat.le_of_ble_eq_true rfl)) ?_
    refine x_icmplt hs dX6_latest_20 rfl (fun hs => ?_) (fun hs => ?_)
    · refine w_aload_n 1 dX6_latest_27 rfl rfl ?_
      refine x_getR 6 0 (b := 17) dX6_latest_28 (fxX6_11 rfl) rfl rfl (lt_of hnx (Nat.le_of_ble_eq_true rfl)) rfl ?_
      refine w_iload_n 0 dX6_latest_31 rfl rfl ?_
      refine grd_e hs (fun hg3 hs => ?_)
      refine x_aald hg3 (Nat.le_of_ble_eq_true rfl) dX6_latest_32 rfl (lt_of hnx (Nat.le_of_ble_eq_true rfl)) (rt17 hg3) ?_
      cases hs
      exact w_areturn rfl rfl dX6_latest_33 rfl (Nat.le_of_ble_eq_true rfl) (Nat.le_of_ble_eq_true rfl) ⟨rfl, rfl⟩
    · refine w_lv (lv' := []) [] rfl ?_
      exact q_Hi_latest_b23 hnx  s hs
set_option maxRecDepth 100000 in
theorem q_Hi_remember_b32 {C : Cx} {nx : Nat} (hnx : 80 ≤ nx) (r1 : Nat) (h_r1 : isPos r1) (s : Sg) {o : Sg} (hs : Hi_remember_b32 r1 s = some o) : ww C M_X6_remember 2 0 0 nx (QV nx o) (XF) nx 0 0 32 [(0, .ref 16), (1, .ref r1)] [] (hp nx s) := by
  unfold Hi_remember_b32 at hs
  refine w_aload_n 0 dX6_remember_32 rfl rfl ?_
  refine w_aload_n 0 dX6_remember_33 rfl rfl ?_
  refine x_getI 6 2 dX6_remember_34 (fxX6_18 rfl) rfl rfl (lt_of hnx (Nat.le_of_ble_eq_true rfl)) ?_
  refine x_V_P M_X6_latest [vi (gi s 16 2)] [] hs rfl dX6_remember_37 (lkX6_25 _ rfl) (lt_of hnx (Nat.le_of_ble_eq_true rfl)) rfl rfl (Nat.le_of_ble_eq_true rfl) (Nat.le_of_ble_eq_true rfl) (Nat.le_of_ble_eq_true rfl) (Nat.le_of_ble_eq_true rfl) (c_Hi_latest hnx (gi s 16 2) s) (fun y1 hy1 hs => ?_)
  have h_y1 := p_Hi_latest hy1
  refine w_astore_n (lv' := [(2, .ref y1), (0, .ref 16), (1, .ref r1)]) dX6_remember_40 rfl (Nat.le_of_ble_eq_true rfl) rfl ?_
  refine w_aload_n 0 dX6_remember_41 rfl rfl ?_
  refine w_ifnull dX6_remember_42 ?_
  refine w_aload_n 0 dX6_remember_45 rfl rfl ?_
  refine w_aload_n 2 dX6_remember_46 rfl rfl ?_
  refine x_V_V M_X9_copy [.ref r1] [] hs rfl dX6_remember_47 (lkX6_29 _ rfl) (pos_n0 h_y1 hnx) (pos_s0 _ h_y1) rfl (Nat.le_of_ble_eq_true rfl) (Nat.le_of_ble_eq_true rfl) (Nat.le_of_ble_eq_true rfl) (Nat.le_of_ble_eq_true rfl) (c_Po_copy hnx y1 h_y1 r1 h_r1 s) (fun s3 hs3 hs => ?_)
  refine w_aload_n 1 dX6_remember_50 rfl rfl ?_
  refine w_dup dX6_remember_51 rfl ?_
  refine x_getI 6 2 dX6_remember_52 (fxX6_18 rfl) rfl rfl (lt_of hnx (Nat.le_of_ble_eq_true rfl)) ?_
  refine x_iconst dX6_remember_55 ?_
  refine x_iadd dX6_remember_56 ?_
  refine x_putI 6 2 dX6_remember_57 (poX6_18 rfl) rfl rfl (lt_of hnx (Nat.le_of_ble_eq_true rfl)) ?_
  refine nam_s hs (fun s4 hs => ?_)
  cases hs
  exact w_return rfl dX6_remember_60 rfl (Nat.le_of_ble_eq_true rfl) (Nat.le_of_ble_eq_true rfl) ⟨rfl, rfl⟩
set_option maxRecDepth 100000 in
theorem c_Hi_remember {C : Cx} {nx : Nat} (hnx : 80 ≤ nx) (r1 : Nat) (h_r1 : isPos r1) (s : Sg) : ∀ o, Hi_remember r1 s = some o → mm C M_X6_remember 2 0 0 nx nx [.ref 16, .ref r1] (hp nx s) (QV nx o) (XF) := by
  intro o hs
  unfold Hi_remember at hs
  refine mm_of rfl rfl (Nat.le_of_ble_eq_true rfl) ?_
  show ww C M_X6_remember 2 0 0 nx (QV nx o) (XF) nx 0 0 0 [(0, .ref 16), (1, .ref r1)] [] (hp nx s)
  refine w_aload_n 0 dX6_remember_0 rfl rfl ?_
  refine x_getI 6 2 dX6_remember_1 (fxX6_18 rfl) rfl rfl (lt_of hnx (Nat.le_of_ble_eq_true rfl)) ?_
  refine x_bipush dX6_remember_4 (by decide) ?_
  refine x_icmpne hs dX6_remember_6 rfl (fun hs => ?_) (fun hs => ?_)
  · exact q_Hi_remember_b32 hnx r1 h_r1 s hs
  · refine w_aload_n 0 dX6_remember_9 rfl rfl ?_
    refine w_aload_n 0 dX6_remember_10 rfl rfl ?_
    refine x_getI 6 1 dX6_remember_11 (fxX6_22 rfl) rfl rfl (lt_of hnx (Nat.le_of_ble_eq_true rfl)) ?_
    refine x_iconst dX6_remember_14 ?_
    refine x_iadd dX6_remember_15 ?_
    refine x_bipush dX6_remember_16 (by decide) ?_
    refine grd_e hs (fun hg5 hs => ?_)
    refine x_irem dX6_remember_18 ⟨hg5.1, by decide, hg5.2.2⟩ ?_
    refine x_putI 6 1 dX6_remember_19 (poX6_22 rfl) rfl rfl (lt_of hnx (Nat.le_of_ble_eq_true rfl)) ?_
    refine nam_s hs (fun s6 hs => ?_)
    refine w_aload_n 0 dX6_remember_22 rfl rfl ?_
    refine w_dup dX6_remember_23 rfl ?_
    refine x_getI 6 2 dX6_remember_24 (fxX6_18 rfl) rfl rfl (lt_of hnx (Nat.le_of_ble_eq_true rfl)) ?_
    refine x_iconst dX6_remember_27 ?_
    refine x_isub dX6_remember_28 ?_
    refine x_putI 6 2 dX6_remember_29 (poX6_18 rfl) rfl rfl (lt_of hnx (Nat.le_of_ble_eq_true rfl)) ?_
    refine nam_s hs (fun s7 hs => ?_)
    exact q_Hi_remember_b32 hnx r1 h_r1 s7 hs
set_option maxRecDepth 100000 in
theorem c_Hx_move {C : Cx} {nx : Nat} (hnx : 80 ≤ nx) (x1 : Int) (s : Sg) : ∀ o, Hx_move x1 s = some o → mm C M_X11_move 10 0 0 nx nx [.ref 0, vi x1] (hp nx s) (QT nx o) (XF) := by
  intro o hs
  unfold Hx_move at hs
  refine mm_of rfl rfl (Nat.le_of_ble_eq_true rfl) ?_
  show ww C M_X11_move 10 0 0 nx (QT nx o) (XF) nx 0 0 0 [(0, .ref 0), (1, vi x1)] [] (hp nx s)
  refine w_aload_n 0 dX11_move_0 rfl rfl ?_
  refine w_iload_n 1 dX11_move_1 rfl rfl ?_
  refine x_V_U M_X11_requireCell [vi x1] [] hs rfl dX11_move_2 (lkX11_180 _ rfl) (lt_of hnx (Nat.le_of_ble_eq_true rfl)) rfl rfl (Nat.le_of_ble_eq_true rfl) (Nat.le_of_ble_eq_true rfl) (Nat.le_of_ble_eq_true rfl) (Nat.le_of_ble_eq_true rfl) (c_Hx_requireCell hnx x1 s) (fun y1 s2 hy1 hs => ?_)
  refine w_aload_n 0 dX11_move_5 rfl rfl ?_
  refine x_getR 11 2 (b := 10) dX11_move_6 (fxX11_28 rfl) rfl rfl (lt_of hnx (Nat.le_of_ble_eq_true rfl)) rfl ?_
  refine w_iload_n 1 dX11_move_9 rfl rfl ?_
  refine x_V_I M_X9_stone [vi x1] [] hs rfl dX11_move_10 (lkX11_183 _ rfl) (lt_of hnx (Nat.le_of_ble_eq_true rfl)) rfl rfl (Nat.le_of_ble_eq_true rfl) (Nat.le_of_ble_eq_true rfl) (Nat.le_of_ble_eq_true rfl) (Nat.le_of_ble_eq_true rfl) (c_Po_stone hnx 10 (show 10 ∈ posL by decide) x1 s2) (fun y3 hy3 hs => ?_)
  refine x_iconst dX11_move_13 ?_
  refine x_icmpne hs dX11_move_14 rfl (fun hs => ?_) (fun hs => ?_)
  · refine x_bipush dX11_move_25 (by decide) ?_
    cases hs
    exact x_ireturn dX11_move_27 rfl rfl (Nat.le_of_ble_eq_true rfl) (Nat.le_of_ble_eq_true rfl) ⟨_, rfl, rfl, rfl⟩
  · refine w_aload_n 0 dX11_move_17 rfl rfl ?_
    refine x_V_B M_X11_winner [] [] hs rfl dX11_move_18 (lkX11_161 _ rfl) (lt_of hnx (Nat.le_of_ble_eq_true rfl)) rfl rfl (Nat.le_of_ble_eq_true rfl) (Nat.le_of_ble_eq_true rfl) (Nat.le_of_ble_eq_true rfl) (Nat.le_of_ble_eq_true rfl) (c_Hx_winner hnx s2) (fun y4 s5 hy4 hs => ?_)
    refine x_iconst dX11_move_21 ?_
    refine x_icmpeq hs dX11_move_22 rfl (fun hs => ?_) (fun hs => ?_)
    · refine w_aload_n 0 dX11_move_28 rfl rfl ?_
      refine x_getR 11 2 (b := 10) dX11_move_29 (fxX11_28 rfl) rfl rfl (lt_of hnx (Nat.le_of_ble_eq_true rfl)) rfl ?_
      refine x_getI 9 4 dX11_move_32 (fxX11_155 rfl) rfl rfl (lt_of hnx (Nat.le_of_ble_eq_true rfl)) ?_
      refine x_sipush dX11_move_35 (by decide) ?_
      refine x_icmplt hs dX11_move_38 rfl (fun hs => ?_) (fun hs => ?_)
      · refine w_aload_n 0 dX11_move_44 rfl rfl ?_
        refine x_getR 11 4 (b := 16) dX11_move_45 (fxX11_38 rfl) rfl rfl (lt_of hnx (Nat.le_of_ble_eq_true rfl)) rfl ?_
        refine w_aload_n 0 dX11_move_48 rfl rfl ?_
        refine x_getR 11 2 (b := 10) dX11_move_49 (fxX11_28 rfl) rfl rfl (lt_of hnx (Nat.le_of_ble_eq_true rfl)) rfl ?_
        refine x_V_V M_X6_remember [.ref 10] [] hs rfl dX11_move_52 (lkX11_312 _ rfl) (lt_of hnx (Nat.le_of_ble_eq_true rfl)) rfl rfl (Nat.le_of_ble_eq_true rfl) (Nat.le_of_ble_eq_true rfl) (Nat.le_of_ble_eq_true rfl) (Nat.le_of_ble_eq_true rfl) (c_Hi_remember hnx 10 (show 10 ∈ posL by decide) s5) (fun s7 hs7 hs => ?_)
        refine w_aload_n 0 dX11_move_55 rfl rfl ?_
        refine x_getR 11 2 (b := 10) dX11_move_56 (fxX11_28 rfl) rfl rfl (lt_of hnx (Nat.le_of_ble_eq_true rfl)) rfl ?_
        refine w_iload_n 1 dX11_move_59 rfl rfl ?_
        refine x_V_V M_X9_play [vi x1] [] hs rfl dX11_move_60 (lkX11_315 _ rfl) (lt_of hnx (Nat.le_of_ble_eq_true rfl)) rfl rfl (Nat.le_of_ble_eq_true rfl) (Nat.le_of_ble_eq_true rfl) (Nat.le_of_ble_eq_true rfl) (Nat.le_of_ble_eq_true rfl) (c_Po_play hnx 10 (show 10 ∈ posL by decide) x1 s7) (fun s9 hs9 hs => ?_)
        refine w_aload_n 0 dX11_move_63 rfl rfl ?_
        refine x_V_B M_X11_winner [] [] hs rfl dX11_move_64 (lkX11_161 _ rfl) (lt_of hnx (Nat.le_of_ble_eq_true rfl)) rfl rfl (Nat.le_of_ble_eq_true rfl) (Nat.le_of_ble_eq_true rfl) (Nat.le_of_ble_eq_true rfl) (Nat.le_of_ble_eq_true rfl) (c_Hx_winner hnx s9) (fun y10 s11 hy10 hs => ?_)
        cases hs
        exact x_ireturn dX11_move_67 rfl rfl (Nat.le_of_ble_eq_true rfl) (Nat.le_of_ble_eq_true rfl) ⟨_, rfl, rfl, rfl⟩
      · refine x_bipush dX11_move_41 (by decide) ?_
        cases hs
        exact x_ireturn dX11_move_43 rfl rfl (Nat.le_of_ble_eq_true rfl) (Nat.le_of_ble_eq_true rfl) ⟨_, rfl, rfl, rfl⟩
    · refine x_bipush dX11_move_25 (by decide) ?_
      cases hs
      exact x_ireturn dX11_move_27 rfl rfl (Nat.le_of_ble_eq_true rfl) (Nat.le_of_ble_eq_true rfl) ⟨_, rfl, rfl, rfl⟩
set_option maxRecDepth 100000 in
theorem c_Gr_mirror {C : Cx} {nx : Nat} (hnx : 80 ≤ nx) (x1 : Int) (s : Sg) : ∀ o, Gr_mirror x1 s = some o → mm C M_X5_mirror 1 0 0 nx nx [.ref 1, vi x1] (hp nx s) (QI nx s o) (XF) := by
  intro o hs
  unfold Gr_mirror at hs
  refine mm_of rfl rfl (Nat.le_of_ble_eq_true rfl) ?_
  show ww C M_X5_mirror 1 0 0 nx (QI nx s o) (XF) nx 0 0 0 [(0, .ref 1), (1, vi x1)] [] (hp nx s)
  refine w_aload_n 0 dX5_mirror_0 rfl rfl ?_
  refine w_aload_n 0 dX5_mirror_1 rfl rfl ?_
  refine w_iload_n 1 dX5_mirror_2 rfl rfl ?_
  refine x_V_I M_X5_column [vi x1] [.ref 1] hs rfl dX5_mirror_3 (lkX5_39 _ rfl) (lt_of hnx (Nat.le_of_ble_eq_true rfl)) rfl rfl (Nat.le_of_ble_eq_true rfl) (Nat.le_of_ble_eq_true rfl) (Nat.le_of_ble_eq_true rfl) (Nat.le_of_ble_eq_true rfl) (c_Gr_column hnx x1 s) (fun y1 hy1 hs => ?_)
  refine w_aload_n 0 dX5_mirror_6 rfl rfl ?_
  refine w_iload_n 1 dX5_mirror_7 rfl rfl ?_
  refine x_V_I M_X5_row [vi x1] [vi y1, .ref 1] hs rfl dX5_mirror_8 (lkX5_28 _ rfl) (lt_of hnx (Nat.le_of_ble_eq_true rfl)) rfl rfl (Nat.le_of_ble_eq_true rfl) (Nat.le_of_ble_eq_true rfl) (Nat.le_of_ble_eq_true rfl) (Nat.le_of_ble_eq_true rfl) (c_Gr_row hnx x1 s) (fun y2 hy2 hs => ?_)
  refine x_V_I M_X5_cellAt [vi y1, vi y2] [] hs rfl dX5_mirror_11 (lkX5_56 _ rfl) (lt_of hnx (Nat.le_of_ble_eq_true rfl)) rfl rfl (Nat.le_of_ble_eq_true rfl) (Nat.le_of_ble_eq_true rfl) (Nat.le_of_ble_eq_true rfl) (Nat.le_of_ble_eq_true rfl) (c_Gr_cellAt hnx y1 y2 s) (fun y3 hy3 hs => ?_)
  cases hs
  exact x_ireturn dX5_mirror_14 rfl rfl (Nat.le_of_ble_eq_true rfl) (Nat.le_of_ble_eq_true rfl) ⟨rfl, rfl⟩
set_option maxRecDepth 100000 in
theorem c_Hx_swap {C : Cx} {nx : Nat} (hnx : 80 ≤ nx)  (s : Sg) : ∀ o, Hx_swap  s = some o → mm C M_X11_swap 6 0 0 nx nx [.ref 0] (hp nx s) (QI nx o.2 o.1) (XF) := by
  intro o hs
  unfold Hx_swap at hs
  refine mm_of rfl rfl (Nat.le_of_ble_eq_true rfl) ?_
  show ww C M_X11_swap 6 0 0 nx (QI nx o.2 o.1) (XF) nx 0 0 0 [(0, .ref 0)] [] (hp nx s)
  refine w_aload_n 0 dX11_swap_0 rfl rfl ?_
  refine x_V_B M_X11_canSwap [] [] hs rfl dX11_swap_1 (lkX11_165 _ rfl) (lt_of hnx (Nat.le_of_ble_eq_true rfl)) rfl rfl (Nat.le_of_ble_eq_true rfl) (Nat.le_of_ble_eq_true rfl) (Nat.le_of_ble_eq_true rfl) (Nat.le_of_ble_eq_true rfl) (c_Hx_canSwap hnx s) (fun y1 s2 hy1 hs => ?_)
  refine x_ifne hs dX11_swap_4 rfl (fun hs => ?_) (fun hs => ?_)
  · refine w_aload_n 0 dX11_swap_10 rfl rfl ?_
    refine x_getR 11 4 (b := 16) dX11_swap_11 (fxX11_38 rfl) rfl rfl (lt_of hnx (Nat.le_of_ble_eq_true rfl)) rfl ?_
    refine w_aload_n 0 dX11_swap_14 rfl rfl ?_
    refine x_getR 11 2 (b := 10) dX11_swap_15 (fxX11_28 rfl) rfl rfl (lt_of hnx (Nat.le_of_ble_eq_true rfl)) rfl ?_
    refine x_V_V M_X6_remember [.ref 10] [] hs rfl dX11_swap_18 (lkX11_312 _ rfl) (lt_of hnx (Nat.le_of_ble_eq_true rfl)) rfl rfl (Nat.le_of_ble_eq_true rfl) (Nat.le_of_ble_eq_true rfl) (Nat.le_of_ble_eq_true rfl) (Nat.le_of_ble_eq_true rfl) (c_Hi_remember hnx 10 (show 10 ∈ posL by decide) s2) (fun s4 hs4 hs => ?_)
    refine w_aload_n 0 dX11_swap_21 rfl rfl ?_
    refine x_getR 11 2 (b := 10) dX11_swap_22 (fxX11_28 rfl) rfl rfl (lt_of hnx (Nat.le_of_ble_eq_true rfl)) rfl ?_
    refine x_iconst dX11_swap_25 ?_
    refine x_V_I M_X9_moved [vi 0] [] hs rfl dX11_swap_26 (lkX11_309 _ rfl) (lt_of hnx (Nat.le_of_ble_eq_true rfl)) rfl rfl (Nat.le_of_ble_eq_true rfl) (Nat.le_of_ble_eq_true rfl) (Nat.le_of_ble_eq_true rfl) (Nat.le_of_ble_eq_true rfl) (c_Po_moved hnx 10 (show 10 ∈ posL by decide) 0 s4) (fun y5 hy5 hs => ?_)
    refine w_istore_n (lv' := [(1, vi y5), (0, .ref 0)]) dX11_swap_29 rfl (Nat.le_of_ble_eq_true rfl) rfl ?_
    refine w_aload_n 1 dX11_swap_30 rfl rfl ?_
    refine x_getR 11 2 (b := 10) dX11_swap_31 (fxX11_28 rfl) rfl rfl (lt_of hnx (Nat.le_of_ble_eq_true rfl)) rfl ?_
    refine w_iload_n 0 dX11_swap_34 rfl rfl ?_
    refine x_iconst dX11_swap_35 ?_
    refine x_V_V M_X9_place [vi y5, vi (-1)] [] hs rfl dX11_swap_36 (lkX11_318 _ rfl) (lt_of hnx (Nat.le_of_ble_eq_true rfl)) rfl rfl (Nat.le_of_ble_eq_true rfl) (Nat.le_of_ble_eq_true rfl) (Nat.le_of_ble_eq_true rfl) (Nat.le_of_ble_eq_true rfl) (c_Po_place hnx 10 (show 10 ∈ posL by decide) y5 (-1) s4) (fun s7 hs7 hs => ?_)
    refine w_aload_n 1 dX11_swap_39 rfl rfl ?_
    refine x_getR 11 0 (b := 1) dX11_swap_40 (fxX11_10 rfl) rfl rfl (lt_of hnx (Nat.le_of_ble_eq_true rfl)) rfl ?_
    refine w_iload_n 0 dX11_swap_43 rfl rfl ?_
    refine x_V_I M_X5_mirror [vi y5] [] hs rfl dX11_swap_44 (lkX11_321 _ rfl) (lt_of hnx (Nat.le_of_ble_eq_true rfl)) rfl rfl (Nat.le_of_ble_eq_true rfl) (Nat.le_of_ble_eq_true rfl) (Nat.le_of_ble_eq_true rfl) (Nat.le_of_ble_eq_true rfl) (c_Gr_mirror hnx y5 s7) (fun y8 hy8 hs => ?_)
    refine w_istore_n (lv' := [(2, vi y8), (1, vi y5), (0, .ref 0)]) dX11_swap_47 rfl (Nat.le_of_ble_eq_true rfl) rfl ?_
    refine w_aload_n 2 dX11_swap_48 rfl rfl ?_
    refine x_getR 11 2 (b := 10) dX11_swap_49 (fxX11_28 rfl) rfl rfl (lt_of hnx (Nat.le_of_ble_eq_true rfl)) rfl ?_
    refine w_iload_n 0 dX11_swap_52 rfl rfl ?_
    refine x_V_V M_X9_play [vi y8] [] hs rfl dX11_swap_53 (lkX11_315 _ rfl) (lt_of hnx (Nat.le_of_ble_eq_true rfl)) rfl rfl (Nat.le_of_ble_eq_true rfl) (Nat.le_of_ble_eq_true rfl) (Nat.le_of_ble_eq_true rfl) (Nat.le_of_ble_eq_true rfl) (c_Po_play hnx 10 (show 10 ∈ posL by decide) y8 s7) (fun s10 hs10 hs => ?_)
    refine w_iload_n 0 dX11_swap_56 rfl rfl ?_
    cases hs
    exact x_ireturn dX11_swap_57 rfl rfl (Nat.le_of_ble_eq_true rfl) (Nat.le_of_ble_eq_true rfl) ⟨rfl, rfl⟩
  · refine x_bipush dX11_swap_7 (by decide) ?_
    cases hs
    exact x_ireturn dX11_swap_9 rfl rfl (Nat.le_of_ble_eq_true rfl) (Nat.le_of_ble_eq_true rfl) ⟨rfl, rfl⟩
set_option maxRecDepth 100000 in
theorem c_Hx_giveUp {C : Cx} {nx : Nat} (hnx : 80 ≤ nx)  (s : Sg) : ∀ o, Hx_giveUp  s = some o → mm C M_X11_giveUp 5 0 0 nx nx [.ref 0] (hp nx s) (QI nx o.2 o.1) (XF) := by
  intro o hs
  unfold Hx_giveUp at hs
  refine mm_of rfl rfl (Nat.le_of_ble_eq_true rfl) ?_
  show ww C M_X11_giveUp 5 0 0 nx (QI nx o.2 o.1) (XF) nx 0 0 0 [(0, .ref 0)] [] (hp nx s)
  refine w_aload_n 0 dX11_giveUp_0 rfl rfl ?_
  refine x_V_B M_X11_winner [] [] hs rfl dX11_giveUp_1 (lkX11_161 _ rfl) (lt_of hnx (Nat.le_of_ble_eq_true rfl)) rfl rfl (Nat.le_of_ble_eq_true rfl) (Nat.le_of_ble_eq_true rfl) (Nat.le_of_ble_eq_true rfl) (Nat.le_of_ble_eq_true rfl) (c_Hx_winner hnx s) (fun y1 s2 hy1 hs => ?_)
  refine x_iconst dX11_giveUp_4 ?_
  refine x_icmpeq hs dX11_giveUp_5 rfl (fun hs => ?_) (fun hs => ?_)
  · refine w_aload_n 0 dX11_giveUp_11 rfl rfl ?_
    refine x_getR 11 4 (b := 16) dX11_giveUp_12 (fxX11_38 rfl) rfl rfl (lt_of hnx (Nat.le_of_ble_eq_true rfl)) rfl ?_
    refine w_aload_n 0 dX11_giveUp_15 rfl rfl ?_
    refine x_getR 11 2 (b := 10) dX11_giveUp_16 (fxX11_28 rfl) rfl rfl (lt_of hnx (Nat.le_of_ble_eq_true rfl)) rfl ?_
    refine x_V_V M_X6_remember [.ref 10] [] hs rfl dX11_giveUp_19 (lkX11_312 _ rfl) (lt_of hnx (Nat.le_of_ble_eq_true rfl)) rfl rfl (Nat.le_of_ble_eq_true rfl) (Nat.le_of_ble_eq_true rfl) (Nat.le_of_ble_eq_true rfl) (Nat.le_of_ble_eq_true rfl) (c_Hi_remember hnx 10 (show 10 ∈ posL by decide) s2) (fun s4 hs4 hs => ?_)
    refine w_aload_n 0 dX11_giveUp_22 rfl rfl ?_
    refine x_getR 11 2 (b := 10) dX11_giveUp_23 (fxX11_28 rfl) rfl rfl (lt_of hnx (Nat.le_of_ble_eq_true rfl)) rfl ?_
    refine w_aload_n 0 dX11_giveUp_26 rfl rfl ?_
    refine x_getR 11 2 (b := 10) dX11_giveUp_27 (fxX11_28 rfl) rfl rfl (lt_of hnx (Nat.le_of_ble_eq_true rfl)) rfl ?_
    refine x_getI 9 5 dX11_giveUp_30 (fxX11_158 rfl) rfl rfl (lt_of hnx (Nat.le_of_ble_eq_true rfl)) ?_
    refine x_putI 9 6 dX11_giveUp_33 (poX11_168 rfl) rfl rfl (lt_of hnx (Nat.le_of_ble_eq_true rfl)) ?_
    refine nam_s hs (fun s5 hs => ?_)
    refine w_aload_n 0 dX11_giveUp_36 rfl rfl ?_
    refine x_V_B M_X11_winner [] [] hs rfl dX11_giveUp_37 (lkX11_161 _ rfl) (lt_of hnx (Nat.le_of_ble_eq_true rfl)) rfl rfl (Nat.le_of_ble_eq_true rfl) (Nat.le_of_ble_eq_true rfl) (Nat.le_of_ble_eq_true rfl) (Nat.le_of_ble_eq_true rfl) (c_Hx_winner hnx s5) (fun y6 s7 hy6 hs => ?_)
    cases hs
    exact x_ireturn dX11_giveUp_40 rfl rfl (Nat.le_of_ble_eq_true rfl) (Nat.le_of_ble_eq_true rfl) ⟨rfl, rfl⟩
  · refine x_bipush dX11_giveUp_8 (by decide) ?_
    cases hs
    exact x_ireturn dX11_giveUp_10 rfl rfl (Nat.le_of_ble_eq_true rfl) (Nat.le_of_ble_eq_true rfl) ⟨rfl, rfl⟩
set_option maxRecDepth 100000 in
theorem c_Hx_put {C : Cx} {nx : Nat} (hnx : 80 ≤ nx) (x1 : Int) (x2 : Int) (s : Sg) : ∀ o, Hx_put x1 x2 s = some o → mm C M_X11_put 10 0 0 nx nx [.ref 0, vi x1, vi x2] (hp nx s) (QT nx o) (XF) := by
  intro o hs
  unfold Hx_put at hs
  refine mm_of rfl rfl (Nat.le_of_ble_eq_true rfl) ?_
  show ww C M_X11_put 10 0 0 nx (QT nx o) (XF) nx 0 0 0 [(0, .ref 0), (1, vi x1), (2, vi x2)] [] (hp nx s)
  refine w_aload_n 0 dX11_put_0 rfl rfl ?_
  refine w_iload_n 1 dX11_put_1 rfl rfl ?_
  refine x_V_U M_X11_requireCell [vi x1] [] hs rfl dX11_put_2 (lkX11_180 _ rfl) (lt_of hnx (Nat.le_of_ble_eq_true rfl)) rfl rfl (Nat.le_of_ble_eq_true rfl) (Nat.le_of_ble_eq_true rfl) (Nat.le_of_ble_eq_true rfl) (Nat.le_of_ble_eq_true rfl) (c_Hx_requireCell hnx x1 s) (fun y1 s2 hy1 hs => ?_)
  refine w_iload_n 2 dX11_put_5 rfl rfl ?_
  refine x_iconst dX11_put_6 ?_
  refine x_iconst dX11_put_7 ?_
  refine x_S_U M_X11_requireRange [vi x2, vi (-1), vi 1] [] hs rfl dX11_put_8 (lkX11_190 _ rfl) (Nat.le_of_ble_eq_true rfl) (Nat.le_of_ble_eq_true rfl) (Nat.le_of_ble_eq_true rfl) (Nat.le_of_ble_eq_true rfl) (c_Hx_requireRange hnx x2 (-1) 1 s2) (fun y3 s4 hy3 hs => ?_)
  refine w_aload_n 0 dX11_put_11 rfl rfl ?_
  refine x_getR 11 4 (b := 16) dX11_put_12 (fxX11_38 rfl) rfl rfl (lt_of hnx (Nat.le_of_ble_eq_true rfl)) rfl ?_
  refine w_aload_n 0 dX11_put_15 rfl rfl ?_
  refine x_getR 11 2 (b := 10) dX11_put_16 (fxX11_28 rfl) rfl rfl (lt_of hnx (Nat.le_of_ble_eq_true rfl)) rfl ?_
  refine x_V_V M_X6_remember [.ref 10] [] hs rfl dX11_put_19 (lkX11_312 _ rfl) (lt_of hnx (Nat.le_of_ble_eq_true rfl)) rfl rfl (Nat.le_of_ble_eq_true rfl) (Nat.le_of_ble_eq_true rfl) (Nat.le_of_ble_eq_true rfl) (Nat.le_of_ble_eq_true rfl) (c_Hi_remember hnx 10 (show 10 ∈ posL by decide) s4) (fun s6 hs6 hs => ?_)
  refine w_aload_n 0 dX11_put_22 rfl rfl ?_
  refine x_getR 11 2 (b := 10) dX11_put_23 (fxX11_28 rfl) rfl rfl (lt_of hnx (Nat.le_of_ble_eq_true rfl)) rfl ?_
  refine w_iload_n 1 dX11_put_26 rfl rfl ?_
  refine x_V_I M_X9_stone [vi x1] [] hs rfl dX11_put_27 (lkX11_183 _ rfl) (lt_of hnx (Nat.le_of_ble_eq_true rfl)) rfl rfl (Nat.le_of_ble_eq_true rfl) (Nat.le_of_ble_eq_true rfl) (Nat.le_of_ble_eq_true rfl) (Nat.le_of_ble_eq_true rfl) (c_Po_stone hnx 10 (show 10 ∈ posL by decide) x1 s6) (fun y7 hy7 hs => ?_)
  refine w_istore_n (lv' := [(3, vi y7), (0, .ref 0), (1, vi x1), (2, vi x2)]) dX11_put_30 rfl (Nat.le_of_ble_eq_true rfl) rfl ?_
  refine w_aload_n 1 dX11_put_31 rfl rfl ?_
  refine x_getR 11 2 (b := 10) dX11_put_32 (fxX11_28 rfl) rfl rfl (lt_of hnx (Nat.le_of_ble_eq_true rfl)) rfl ?_
  refine w_iload_n 2 dX11_put_35 rfl rfl ?_
  refine w_iload_n 3 dX11_put_36 rfl rfl ?_
  refine x_V_V M_X9_place [vi x1, vi x2] [] hs rfl dX11_put_37 (lkX11_318 _ rfl) (lt_of hnx (Nat.le_of_ble_eq_true rfl)) rfl rfl (Nat.le_of_ble_eq_true rfl) (Nat.le_of_ble_eq_true rfl) (Nat.le_of_ble_eq_true rfl) (Nat.le_of_ble_eq_true rfl) (c_Po_place hnx 10 (show 10 ∈ posL by decide) x1 x2 s6) (fun s9 hs9 hs => ?_)
  refine w_iload_n 0 dX11_put_40 rfl rfl ?_
  cases hs
  exact x_ireturn dX11_put_41 rfl rfl (Nat.le_of_ble_eq_true rfl) (Nat.le_of_ble_eq_true rfl) ⟨_, rfl, rfl, rfl⟩
set_option maxRecDepth 100000 in
theorem c_Hx_setTurn {C : Cx} {nx : Nat} (hnx : 80 ≤ nx) (x1 : Int) (s : Sg) : ∀ o, Hx_setTurn x1 s = some o → mm C M_X11_setTurn 10 0 0 nx nx [.ref 0, vi x1] (hp nx s) (QT nx o) (XF) := by
  intro o hs
  unfold Hx_setTurn at hs
  refine mm_of rfl rfl (Nat.le_of_ble_eq_true rfl) ?_
  show ww C M_X11_setTurn 10 0 0 nx (QT nx o) (XF) nx 0 0 0 [(0, .ref 0), (1, vi x1)] [] (hp nx s)
  refine w_iload_n 1 dX11_setTurn_0 rfl rfl ?_
  refine x_S_U M_X11_requireSide [vi x1] [] hs rfl dX11_setTurn_1 (lkX11_211 _ rfl) (Nat.le_of_ble_eq_true rfl) (Nat.le_of_ble_eq_true rfl) (Nat.le_of_ble_eq_true rfl) (Nat.le_of_ble_eq_true rfl) (c_Hx_requireSide hnx x1 s) (fun y1 s2 hy1 hs => ?_)
  refine w_aload_n 0 dX11_setTurn_4 rfl rfl ?_
  refine x_getR 11 4 (b := 16) dX11_setTurn_5 (fxX11_38 rfl) rfl rfl (lt_of hnx (Nat.le_of_ble_eq_true rfl)) rfl ?_
  refine w_aload_n 0 dX11_setTurn_8 rfl rfl ?_
  refine x_getR 11 2 (b := 10) dX11_setTurn_9 (fxX11_28 rfl) rfl rfl (lt_of hnx (Nat.le_of_ble_eq_true rfl)) rfl ?_
  refine x_V_V M_X6_remember [.ref 10] [] hs rfl dX11_setTurn_12 (lkX11_312 _ rfl) (lt_of hnx (Nat.le_of_ble_eq_true rfl)) rfl rfl (Nat.le_of_ble_eq_true rfl) (Nat.le_of_ble_eq_true rfl) (Nat.le_of_ble_eq_true rfl) (Nat.le_of_ble_eq_true rfl) (c_Hi_remember hnx 10 (show 10 ∈ posL by decide) s2) (fun s4 hs4 hs => ?_)
  refine w_aload_n 0 dX11_setTurn_15 rfl rfl ?_
  refine x_getR 11 2 (b := 10) dX11_setTurn_16 (fxX11_28 rfl) rfl rfl (lt_of hnx (Nat.le_of_ble_eq_true rfl)) rfl ?_
  refine x_getI 9 5 dX11_setTurn_19 (fxX11_158 rfl) rfl rfl (lt_of hnx (Nat.le_of_ble_eq_true rfl)) ?_
  refine x_istore_n (fun x2_5 => [(2, vi x2_5), (0, .ref 0), (1, vi x1)]) hs dX11_setTurn_22 rfl (Nat.le_of_ble_eq_true rfl) (fun _ => rfl) (fun x2_5 hs => ?_)
  refine w_aload_n 1 dX11_setTurn_23 rfl rfl ?_
  refine x_getR 11 2 (b := 10) dX11_setTurn_24 (fxX11_28 rfl) rfl rfl (lt_of hnx (Nat.le_of_ble_eq_true rfl)) rfl ?_
  refine w_iload_n 2 dX11_setTurn_27 rfl rfl ?_
  refine x_putI 9 5 dX11_setTurn_28 (poX11_158 rfl) rfl rfl (lt_of hnx (Nat.le_of_ble_eq_true rfl)) ?_
  refine nam_s hs (fun s6 hs => ?_)
  refine w_iload_n 0 dX11_setTurn_31 rfl rfl ?_
  cases hs
  exact x_ireturn dX11_setTurn_32 rfl rfl (Nat.le_of_ble_eq_true rfl) (Nat.le_of_ble_eq_true rfl) ⟨_, rfl, rfl, rfl⟩
set_option maxRecDepth 100000 in
theorem c_Po_mirrored {C : Cx} {nx : Nat} (hnx : 80 ≤ nx) (x0 : Int) (s : Sg) : ∀ o, Po_mirrored x0 s = some o → mm C M_X9_mirrored 1 0 0 nx nx [vi x0] (hp nx s) (QI nx s o) (XF) := by
  intro o hs
  unfold Po_mirrored at hs
  refine mm_of rfl rfl (Nat.le_of_ble_eq_true rfl) ?_
  show ww C M_X9_mirrored 1 0 0 nx (QI nx s o) (XF) nx 0 0 0 [(0, vi x0)] [] (hp nx s)
  refine w_iload_n 0 dX9_mirrored_0 rfl rfl ?_
  refine x_iconst dX9_mirrored_1 ?_
  refine x_icmpne hs dX9_mirrored_2 rfl (fun hs => ?_) (fun hs => ?_)
  · refine w_iload_n 0 dX9_mirrored_9 rfl rfl ?_
    refine x_N_I M_X11_otherSide [vi x0] [] hs rfl dX9_mirrored_10 (lkX9_49 _ rfl) (Nat.le_of_ble_eq_true rfl) (Nat.le_of_ble_eq_true rfl) (Nat.le_of_ble_eq_true rfl) (Nat.le_of_ble_eq_true rfl) (c_Hx_otherSide hnx x0 s) (fun y1 hy1 hs => ?_)
    cases hs
    exact x_ireturn dX9_mirrored_13 rfl rfl (Nat.le_of_ble_eq_true rfl) (Nat.le_of_ble_eq_true rfl) ⟨rfl, rfl⟩
  · refine x_iconst dX9_mirrored_5 ?_
    refine w_goto dX9_mirrored_6 rfl ?_
    cases hs
    exact x_ireturn dX9_mirrored_13 rfl rfl (Nat.le_of_ble_eq_true rfl) (Nat.le_of_ble_eq_true rfl) ⟨rfl, rfl⟩
set_option maxRecDepth 100000 in
theorem q_Po_mirror_b62 {C : Cx} {nx : Nat} (hnx : 80 ≤ nx) {Qr : Option Value → Hp → Prop} {Qx : String → Hp → Prop}  (r0 : Nat) (h_r0 : isPos r0) (x2 : Int) (s : Sg) {o : ((Int × Sg) ⊕ (Sg))} (hs : Po_mirror_b62 r0 x2 s = some o) (hb : ∀ σ : Int × Sg, o = .inl σ → ww C M_X9_mirror 2 0 0 nx (Qr) (Qx) nx 0 0 2 [(0, .ref r0), (1, .ref 1), (2, vi σ.1)] [] (hp nx σ.2)) (he0 : ∀ ρ : Sg, o = .inr ρ → ww C M_X9_mirror 2 0 0 nx (Qr) (Qx) nx 0 0 68 [(0, .ref r0), (1, .ref 1)] [] (hp nx ρ)) : ww C M_X9_mirror 2 0 0 nx (Qr) (Qx) nx 0 0 62 [(0, .ref r0), (1, .ref 1), (2, vi x2)] [] (hp nx s) := by
  unfold Po_mirror_b62 at hs
  refine x_iinc (lv' := [(2, vi (x2 + 1)), (0, .ref r0), (1, .ref 1)]) 2 dX9_mirror_62 rfl (Nat.le_of_ble_eq_true rfl) rfl ?_
  refine w_goto dX9_mirror_65 rfl ?_
  refine w_lv (lv' := [(0, .ref r0), (1, .ref 1), (2, vi (x2 + 1))]) [1, 2, 0] rfl ?_
  cases hs
  exact hb _ rfl
set_option maxRecDepth 100000 in
theorem q_Po_mirror_t2 {C : Cx} {nx : Nat} (hnx : 80 ≤ nx) {Qr : Option Value → Hp → Prop} {Qx : String → Hp → Prop}  (r0 : Nat) (h_r0 : isPos r0) (x2 : Int) (s : Sg) {o : ((Int × Sg) ⊕ (Sg))} (hs : Po_mirror_t2 r0 x2 s = some o) (hb : ∀ σ : Int × Sg, o = .inl σ → ww C M_X9_mirror 2 0 0 nx (Qr) (Qx) nx 0 0 2 [(0, .ref r0), (1, .ref 1), (2, vi σ.1)] [] (hp nx σ.2)) (he0 : ∀ ρ : Sg, o = .inr ρ → ww C M_X9_mirror 2 0 0 nx (Qr) (Qx) nx 0 0 68 [(0, .ref r0), (1, .ref 1)] [] (hp nx ρ)) : ww C M_X9_mirror 2 0 0 nx (Qr) (Qx) nx 0 0 2 [(0, .ref r0), (1, .ref 1), (2, vi x2)] [] (hp nx s) := by
  unfold Po_mirror_t2 at hs
  refine w_iload_n 2 dX9_mirror_2 rfl rfl ?_
  refine w_aload_n 0 dX9_mirror_3 rfl rfl ?_
  refine x_getI 9 2 dX9_mirror_4 (fxX9_18 rfl) rfl (pos_s0 _ h_r0) (pos_n0 h_r0 hnx) ?_
  refine w_aload_n 0 dX9_mirror_7 rfl rfl ?_
  refine x_getI 9 2 dX9_mirror_8 (fxX9_18 rfl) rfl (pos_s0 _ h_r0) (pos_n0 h_r0 hnx) ?_
  refine x_imul dX9_mirror_11 ?_
  refine x_icmpge hs dX9_mirror_12 rfl (fun hs => ?_) (fun hs => ?_)
  · refine w_lv (lv' := [(0, .ref r0), (1, .ref 1)]) [0, 1] rfl ?_
    cases hs
    exact he0 _ rfl
  · refine w_aload_n 1 dX9_mirror_15 rfl rfl ?_
    refine w_iload_n 2 dX9_mirror_16 rfl rfl ?_
    refine x_V_I M_X5_mirror [vi x2] [] hs rfl dX9_mirror_17 (lkX9_66 _ rfl) (lt_of hnx (Nat.le_of_ble_eq_true rfl)) rfl rfl (Nat.le_of_ble_eq_true rfl) (Nat.le_of_ble_eq_true rfl) (Nat.le_of_ble_eq_true rfl) (Nat.le_of_ble_eq_true rfl) (c_Gr_mirror hnx x2 s) (fun y1 hy1 hs => ?_)
    refine w_istore_n (lv' := [(3, vi y1), (0, .ref r0), (1, .ref 1), (2, vi x2)]) dX9_mirror_20 rfl (Nat.le_of_ble_eq_true rfl) rfl ?_
    refine w_iload_n 0 dX9_mirror_21 rfl rfl ?_
    refine w_iload_n 3 dX9_mirror_22 rfl rfl ?_
    refine x_icmplt hs dX9_mirror_23 rfl (fun hs => ?_) (fun hs => ?_)
    · refine w_lv (lv' := [(0, .ref r0), (1, .ref 1), (2, vi x2)]) [1, 2, 3] rfl ?_
      exact q_Po_mirror_b62 hnx r0 h_r0 x2 s hs hb he0
    · refine w_aload_n 1 dX9_mirror_26 rfl rfl ?_
      refine w_iload_n 3 dX9_mirror_27 rfl rfl ?_
      refine x_V_I M_X9_stone [vi x2] [] hs rfl dX9_mirror_28 (lkX9_53 _ rfl) (pos_n0 h_r0 hnx) (pos_s0 _ h_r0) rfl (Nat.le_of_ble_eq_true rfl) (Nat.le_of_ble_eq_true rfl) (Nat.le_of_ble_eq_true rfl) (Nat.le_of_ble_eq_true rfl) (c_Po_stone hnx r0 h_r0 x2 s) (fun y2 hy2 hs => ?_)
      refine w_istore (lv' := [(4, vi y2), (3, vi y1), (0, .ref r0), (1, .ref 1), (2, vi x2)]) dX9_mirror_31 (Nat.le_of_ble_eq_true rfl) rfl ?_
      refine w_aload_n 2 dX9_mirror_33 rfl rfl ?_
      refine x_getR 9 0 (b := (r0 + 1)) dX9_mirror_34 (fxX9_9 rfl) rfl (pos_s0 _ h_r0) (pos_n0 h_r0 hnx) (pos_r0 _ h_r0) ?_
      refine w_iload_n 4 dX9_mirror_37 rfl rfl ?_
      refine w_aload_n 2 dX9_mirror_38 rfl rfl ?_
      refine w_iload_n 1 dX9_mirror_39 rfl rfl ?_
      refine x_V_I M_X9_stone [vi y1] [vi x2, .ref (r0 + 1)] hs rfl dX9_mirror_40 (lkX9_53 _ rfl) (pos_n0 h_r0 hnx) (pos_s0 _ h_r0) rfl (Nat.le_of_ble_eq_true rfl) (Nat.le_of_ble_eq_true rfl) (Nat.le_of_ble_eq_true rfl) (Nat.le_of_ble_eq_true rfl) (c_Po_stone hnx r0 h_r0 y1 s) (fun y3 hy3 hs => ?_)
      refine x_S_I M_X9_mirrored [vi y3] [vi x2, .ref (r0 + 1)] hs rfl dX9_mirror_43 (lkX9_71 _ rfl) (Nat.le_of_ble_eq_true rfl) (Nat.le_of_ble_eq_true rfl) (Nat.le_of_ble_eq_true rfl) (Nat.le_of_ble_eq_true rfl) (c_Po_mirrored hnx y3 s) (fun y4 hy4 hs => ?_)
      refine x_N_V M_X11_set [.ref (r0 + 1), vi x2, vi y4] [] hs rfl dX9_mirror_46 (lkX9_35 _ rfl) (Nat.le_of_ble_eq_true rfl) (Nat.le_of_ble_eq_true rfl) (Nat.le_of_ble_eq_true rfl) (Nat.le_of_ble_eq_true rfl) (c_Hx_set hnx (r0 + 1) (rowW_of (pos_s1 _ h_r0) (pos_n1 h_r0 hnx)) x2 y4 s) (fun s6 hs6 hs => ?_)
      refine w_aload_n 2 dX9_mirror_49 rfl rfl ?_
      refine x_getR 9 0 (b := (r0 + 1)) dX9_mirror_50 (fxX9_9 rfl) rfl (pos_s0 _ h_r0) (pos_n0 h_r0 hnx) (pos_r0 _ h_r0) ?_
      refine w_iload_n 1 dX9_mirror_53 rfl rfl ?_
      refine w_iload 0 dX9_mirror_54 rfl ?_
      refine x_S_I M_X9_mirrored [vi y2] [vi y1, .ref (r0 + 1)] hs rfl dX9_mirror_56 (lkX9_71 _ rfl) (Nat.le_of_ble_eq_true rfl) (Nat.le_of_ble_eq_true rfl) (Nat.le_of_ble_eq_true rfl) (Nat.le_of_ble_eq_true rfl) (c_Po_mirrored hnx y2 s6) (fun y7 hy7 hs => ?_)
      refine x_N_V M_X11_set [.ref (r0 + 1), vi y1, vi y7] [] hs rfl dX9_mirror_59 (lkX9_35 _ rfl) (Nat.le_of_ble_eq_true rfl) (Nat.le_of_ble_eq_true rfl) (Nat.le_of_ble_eq_true rfl) (Nat.le_of_ble_eq_true rfl) (c_Hx_set hnx (r0 + 1) (rowW_of (pos_s1 _ h_r0) (pos_n1 h_r0 hnx)) y1 y7 s6) (fun s9 hs9 hs => ?_)
      refine w_lv (lv' := [(0, .ref r0), (1, .ref 1), (2, vi x2)]) [2, 3, 4] rfl ?_
      exact q_Po_mirror_b62 hnx r0 h_r0 x2 s9 hs hb he0
set_option maxRecDepth 100000 in
theorem q_Po_mirror_t70 {C : Cx} {nx : Nat} (hnx : 80 ≤ nx) {Qr : Option Value → Hp → Prop} {Qx : String → Hp → Prop}  (r0 : Nat) (h_r0 : isPos r0) (x2 : Int) (s : Sg) {o : ((Int × Sg) ⊕ (Sg))} (hs : Po_mirror_t70 r0 x2 s = some o) (hb : ∀ σ : Int × Sg, o = .inl σ → ww C M_X9_mirror 2 0 0 nx (Qr) (Qx) nx 0 0 70 [(0, .ref r0), (1, .ref 1), (2, vi σ.1)] [] (hp nx σ.2)) (he0 : ∀ ρ : Sg, o = .inr ρ → ww C M_X9_mirror 2 0 0 nx (Qr) (Qx) nx 0 0 101 [(0, .ref r0)] [] (hp nx ρ)) : ww C M_X9_mirror 2 0 0 nx (Qr) (Qx) nx 0 0 70 [(0, .ref r0), (1, .ref 1), (2, vi x2)] [] (hp nx s) := by
  unfold Po_mirror_t70 at hs
  refine w_iload_n 2 dX9_mirror_70 rfl rfl ?_
  refine w_aload_n 0 dX9_mirror_71 rfl rfl ?_
  refine x_getI 9 4 dX9_mirror_72 (fxX9_26 rfl) rfl (pos_s0 _ h_r0) (pos_n0 h_r0 hnx) ?_
  refine x_icmpge hs dX9_mirror_75 rfl (fun hs => ?_) (fun hs => ?_)
  · refine w_lv (lv' := [(0, .ref r0)]) [0] rfl ?_
    cases hs
    exact he0 _ rfl
  · refine w_aload_n 0 dX9_mirror_78 rfl rfl ?_
    refine x_getR 9 1 (b := (r0 + 2)) dX9_mirror_79 (fxX9_15 rfl) rfl (pos_s0 _ h_r0) (pos_n0 h_r0 hnx) (pos_r1 _ h_r0) ?_
    refine w_iload_n 2 dX9_mirror_82 rfl rfl ?_
    refine w_aload_n 1 dX9_mirror_83 rfl rfl ?_
    refine w_aload_n 0 dX9_mirror_84 rfl rfl ?_
    refine w_iload_n 2 dX9_mirror_85 rfl rfl ?_
    refine x_V_I M_X9_moved [vi x2] [.ref 1, vi x2, .ref (r0 + 2)] hs rfl dX9_mirror_86 (lkX9_74 _ rfl) (pos_n0 h_r0 hnx) (pos_s0 _ h_r0) rfl (Nat.le_of_ble_eq_true rfl) (Nat.le_of_ble_eq_true rfl) (Nat.le_of_ble_eq_true rfl) (Nat.le_of_ble_eq_true rfl) (c_Po_moved hnx r0 h_r0 x2 s) (fun y11 hy11 hs => ?_)
    refine x_V_I M_X5_mirror [vi y11] [vi x2, .ref (r0 + 2)] hs rfl dX9_mirror_89 (lkX9_66 _ rfl) (lt_of hnx (Nat.le_of_ble_eq_true rfl)) rfl rfl (Nat.le_of_ble_eq_true rfl) (Nat.le_of_ble_eq_true rfl) (Nat.le_of_ble_eq_true rfl) (Nat.le_of_ble_eq_true rfl) (c_Gr_mirror hnx y11 s) (fun y12 hy12 hs => ?_)
    refine x_N_V M_X11_set [.ref (r0 + 2), vi x2, vi y12] [] hs rfl dX9_mirror_92 (lkX9_35 _ rfl) (Nat.le_of_ble_eq_true rfl) (Nat.le_of_ble_eq_true rfl) (Nat.le_of_ble_eq_true rfl) (Nat.le_of_ble_eq_true rfl) (c_Hx_set hnx (r0 + 2) (rowW_of (pos_s2 _ h_r0) (pos_n2 h_r0 hnx)) x2 y12 s) (fun s14 hs14 hs => ?_)
    refine x_iinc (lv' := [(2, vi (x2 + 1)), (0, .ref r0), (1, .ref 1)]) 2 dX9_mirror_95 rfl (Nat.le_of_ble_eq_true rfl) rfl ?_
    refine w_goto dX9_mirror_98 rfl ?_
    refine w_lv (lv' := [(0, .ref r0), (1, .ref 1), (2, vi (x2 + 1))]) [1, 2, 0] rfl ?_
    cases hs
    exact hb _ rfl
set_option maxRecDepth 100000 in
theorem q_Po_mirror_l70 {C : Cx} {nx : Nat} (hnx : 80 ≤ nx) (r0 : Nat) (h_r0 : isPos r0) (x2 : Int) (s : Sg) {o : Sg} (hs : Po_mirror_l70 r0 x2 s = some o) : ww C M_X9_mirror 2 0 0 nx (QV nx o) (XF) nx 0 0 70 [(0, .ref r0), (1, .ref 1), (2, vi x2)] [] (hp nx s) := by
  unfold Po_mirror_l70 at hs
  refine bnd_e hs (fun s_15 hw hs => ?_)
  have hE : ww C M_X9_mirror 2 0 0 nx (QV nx o) (XF) nx 0 0 101 [(0, .ref r0)] [] (hp nx s_15) := by
    refine w_aload_n 0 dX9_mirror_101 rfl rfl ?_
    refine w_aload_n 0 dX9_mirror_102 rfl rfl ?_
    refine x_getI 9 5 dX9_mirror_103 (fxX9_29 rfl) rfl (pos_s0 _ h_r0) (pos_n0 h_r0 hnx) ?_
    refine x_N_I M_X11_otherSide [vi (gi s_15 r0 5)] [.ref r0] hs rfl dX9_mirror_106 (lkX9_49 _ rfl) (Nat.le_of_ble_eq_true rfl) (Nat.le_of_ble_eq_true rfl) (Nat.le_of_ble_eq_true rfl) (Nat.le_of_ble_eq_true rfl) (c_Hx_otherSide hnx (gi s_15 r0 5) s_15) (fun y16 hy16 hs => ?_)
    refine x_putI 9 5 dX9_mirror_109 (poX9_29 rfl) rfl (pos_s0 _ h_r0) (pos_n0 h_r0 hnx) ?_
    refine nam_s hs (fun s17 hs => ?_)
    refine w_aload_n 0 dX9_mirror_112 rfl rfl ?_
    refine w_aload_n 0 dX9_mirror_113 rfl rfl ?_
    refine x_getI 9 6 dX9_mirror_114 (fxX9_32 rfl) rfl (pos_s0 _ h_r0) (pos_n0 h_r0 hnx) ?_
    refine x_S_I M_X9_mirrored [vi (gi s17 r0 6)] [.ref r0] hs rfl dX9_mirror_117 (lkX9_71 _ rfl) (Nat.le_of_ble_eq_true rfl) (Nat.le_of_ble_eq_true rfl) (Nat.le_of_ble_eq_true rfl) (Nat.le_of_ble_eq_true rfl) (c_Po_mirrored hnx (gi s17 r0 6) s17) (fun y18 hy18 hs => ?_)
    refine x_putI 9 6 dX9_mirror_120 (poX9_32 rfl) rfl (pos_s0 _ h_r0) (pos_n0 h_r0 hnx) ?_
    refine nam_s hs (fun s19 hs => ?_)
    cases hs
    exact w_return rfl dX9_mirror_123 rfl (Nat.le_of_ble_eq_true rfl) (Nat.le_of_ble_eq_true rfl) ⟨rfl, rfl⟩
  refine whl_w (P := fun σ => ww C M_X9_mirror 2 0 0 nx (QV nx o) (XF) nx 0 0 70 [(0, .ref r0), (1, .ref 1), (2, vi σ.1)] [] (hp nx σ.2)) (E := fun ρ => ρ = s_15) hw rfl ?_
  intro σ o' hs' hb' he'
  exact q_Po_mirror_t70 hnx r0 h_r0 σ.1 σ.2 hs' hb' (fun ρ e => by cases he' _ e; exact hE)
set_option maxRecDepth 100000 in
theorem q_Po_mirror_l2 {C : Cx} {nx : Nat} (hnx : 80 ≤ nx) (r0 : Nat) (h_r0 : isPos r0) (x2 : Int) (s : Sg) {o : Sg} (hs : Po_mirror_l2 r0 x2 s = some o) : ww C M_X9_mirror 2 0 0 nx (QV nx o) (XF) nx 0 0 2 [(0, .ref r0), (1, .ref 1), (2, vi x2)] [] (hp nx s) := by
  unfold Po_mirror_l2 at hs
  refine bnd_e hs (fun s_10 hw hs => ?_)
  have hE : ww C M_X9_mirror 2 0 0 nx (QV nx o) (XF) nx 0 0 68 [(0, .ref r0), (1, .ref 1)] [] (hp nx s_10) := by
    refine x_iconst dX9_mirror_68 ?_
    refine w_istore_n (lv' := [(2, vi 0), (0, .ref r0), (1, .ref 1)]) dX9_mirror_69 rfl (Nat.le_of_ble_eq_true rfl) rfl ?_
    refine w_lv (lv' := [(0, .ref r0), (1, .ref 1), (2, vi 0)]) [1, 2, 0] rfl ?_
    exact q_Po_mirror_l70 hnx r0 h_r0 0 s_10 hs
  refine whl_w (P := fun σ => ww C M_X9_mirror 2 0 0 nx (QV nx o) (XF) nx 0 0 2 [(0, .ref r0), (1, .ref 1), (2, vi σ.1)] [] (hp nx σ.2)) (E := fun ρ => ρ = s_10) hw rfl ?_
  intro σ o' hs' hb' he'
  exact q_Po_mirror_t2 hnx r0 h_r0 σ.1 σ.2 hs' hb' (fun ρ e => by cases he' _ e; exact hE)
set_option maxRecDepth 100000 in
theorem c_Po_mirror {C : Cx} {nx : Nat} (hnx : 80 ≤ nx) (r0 : Nat) (h_r0 : isPos r0) (s : Sg) : ∀ o, Po_mirror r0 s = some o → mm C M_X9_mirror 2 0 0 nx nx [.ref r0, .ref 1] (hp nx s) (QV nx o) (XF) := by
  intro o hs
  unfold Po_mirror at hs
  refine mm_of rfl rfl (Nat.le_of_ble_eq_true rfl) ?_
  show ww C M_X9_mirror 2 0 0 nx (QV nx o) (XF) nx 0 0 0 [(0, .ref r0), (1, .ref 1)] [] (hp nx s)
  refine x_iconst dX9_mirror_0 ?_
  refine w_istore_n (lv' := [(2, vi 0), (0, .ref r0), (1, .ref 1)]) dX9_mirror_1 rfl (Nat.le_of_ble_eq_true rfl) rfl ?_
  refine w_lv (lv' := [(0, .ref r0), (1, .ref 1), (2, vi 0)]) [1, 2, 0] rfl ?_
  exact q_Po_mirror_l2 hnx r0 h_r0 0 s hs
set_option maxRecDepth 100000 in
theorem c_Hx_turnOver {C : Cx} {nx : Nat} (hnx : 80 ≤ nx)  (s : Sg) : ∀ o, Hx_turnOver  s = some o → mm C M_X11_turnOver 3 0 0 nx nx [.ref 0] (hp nx s) (QI nx o.2 o.1) (XF) := by
  intro o hs
  unfold Hx_turnOver at hs
  refine mm_of rfl rfl (Nat.le_of_ble_eq_true rfl) ?_
  show ww C M_X11_turnOver 3 0 0 nx (QI nx o.2 o.1) (XF) nx 0 0 0 [(0, .ref 0)] [] (hp nx s)
  refine w_aload_n 0 dX11_turnOver_0 rfl rfl ?_
  refine x_getR 11 4 (b := 16) dX11_turnOver_1 (fxX11_38 rfl) rfl rfl (lt_of hnx (Nat.le_of_ble_eq_true rfl)) rfl ?_
  refine w_aload_n 0 dX11_turnOver_4 rfl rfl ?_
  refine x_getR 11 2 (b := 10) dX11_turnOver_5 (fxX11_28 rfl) rfl rfl (lt_of hnx (Nat.le_of_ble_eq_true rfl)) rfl ?_
  refine x_V_V M_X6_remember [.ref 10] [] hs rfl dX11_turnOver_8 (lkX11_312 _ rfl) (lt_of hnx (Nat.le_of_ble_eq_true rfl)) rfl rfl (Nat.le_of_ble_eq_true rfl) (Nat.le_of_ble_eq_true rfl) (Nat.le_of_ble_eq_true rfl) (Nat.le_of_ble_eq_true rfl) (c_Hi_remember hnx 10 (show 10 ∈ posL by decide) s) (fun s2 hs2 hs => ?_)
  refine w_aload_n 0 dX11_turnOver_11 rfl rfl ?_
  refine x_getR 11 2 (b := 10) dX11_turnOver_12 (fxX11_28 rfl) rfl rfl (lt_of hnx (Nat.le_of_ble_eq_true rfl)) rfl ?_
  refine w_aload_n 0 dX11_turnOver_15 rfl rfl ?_
  refine x_getR 11 0 (b := 1) dX11_turnOver_16 (fxX11_10 rfl) rfl rfl (lt_of hnx (Nat.le_of_ble_eq_true rfl)) rfl ?_
  refine x_V_V M_X9_mirror [.ref 1] [] hs rfl dX11_turnOver_19 (lkX11_324 _ rfl) (lt_of hnx (Nat.le_of_ble_eq_true rfl)) rfl rfl (Nat.le_of_ble_eq_true rfl) (Nat.le_of_ble_eq_true rfl) (Nat.le_of_ble_eq_true rfl) (Nat.le_of_ble_eq_true rfl) (c_Po_mirror hnx 10 (show 10 ∈ posL by decide) s2) (fun s4 hs4 hs => ?_)
  refine w_aload_n 0 dX11_turnOver_22 rfl rfl ?_
  refine x_getR 11 2 (b := 10) dX11_turnOver_23 (fxX11_28 rfl) rfl rfl (lt_of hnx (Nat.le_of_ble_eq_true rfl)) rfl ?_
  refine x_getI 9 2 dX11_turnOver_26 (fxX11_131 rfl) rfl rfl (lt_of hnx (Nat.le_of_ble_eq_true rfl)) ?_
  cases hs
  exact x_ireturn dX11_turnOver_29 rfl rfl (Nat.le_of_ble_eq_true rfl) (Nat.le_of_ble_eq_true rfl) ⟨rfl, rfl⟩
set_option maxRecDepth 100000 in
theorem q_Hx_makeForced_t2 {C : Cx} {nx : Nat} (hnx : 80 ≤ nx) {Qr : Option Value → Hp → Prop} {Qx : String → Hp → Prop}  (x1 : Int) (x2 : Int) (s : Sg) {o : ((Int × Sg) ⊕ ((Int × Sg) ⊕ (Int × Sg)))} (hs : Hx_makeForced_t2 x1 x2 s = some o) (hb : ∀ σ : Int × Sg, o = .inl σ → ww C M_X11_makeForced 6 0 0 nx (Qr) (Qx) nx 0 0 2 [(0, .ref 0), (1, vi x1), (2, vi σ.1)] [] (hp nx σ.2)) (he0 : ∀ ρ : Int × Sg, o = .inr (.inl ρ) → ww C M_X11_makeForced 6 0 0 nx (Qr) (Qx) nx 0 0 30 [(2, vi ρ.1)] [] (hp nx ρ.2)) (he1 : ∀ ρ : Int × Sg, o = .inr (.inr ρ) → ww C M_X11_makeForced 6 0 0 nx (Qr) (Qx) nx 0 0 46 [(2, vi ρ.1)] [] (hp nx ρ.2)) : ww C M_X11_makeForced 6 0 0 nx (Qr) (Qx) nx 0 0 2 [(0, .ref 0), (1, vi x1), (2, vi x2)] [] (hp nx s) := by
  unfold Hx_makeForced_t2 at hs
  refine w_iload_n 2 dX11_makeForced_2 rfl rfl ?_
  refine w_iload_n 1 dX11_makeForced_3 rfl rfl ?_
  refine x_icmpge hs dX11_makeForced_4 rfl (fun hs => ?_) (fun hs => ?_)
  · refine w_lv (lv' := [(2, vi x2)]) [2] rfl ?_
    cases hs
    exact he1 _ rfl
  · refine w_aload_n 0 dX11_makeForced_7 rfl rfl ?_
    refine x_getR 11 2 (b := 10) dX11_makeForced_8 (fxX11_28 rfl) rfl rfl (lt_of hnx (Nat.le_of_ble_eq_true rfl)) rfl ?_
    refine x_getI 9 4 dX11_makeForced_11 (fxX11_155 rfl) rfl rfl (lt_of hnx (Nat.le_of_ble_eq_true rfl)) ?_
    refine x_sipush dX11_makeForced_14 (by decide) ?_
    refine x_icmpge hs dX11_makeForced_17 rfl (fun hs => ?_) (fun hs => ?_)
    · refine w_lv (lv' := [(2, vi x2)]) [2] rfl ?_
      cases hs
      exact he1 _ rfl
    · refine w_aload_n 0 dX11_makeForced_20 rfl rfl ?_
      refine x_V_B M_X11_forcedCell [] [] hs rfl dX11_makeForced_21 (lkX11_262 _ rfl) (lt_of hnx (Nat.le_of_ble_eq_true rfl)) rfl rfl (Nat.le_of_ble_eq_true rfl) (Nat.le_of_ble_eq_true rfl) (Nat.le_of_ble_eq_true rfl) (Nat.le_of_ble_eq_true rfl) (c_Hx_forcedCell hnx s) (fun y1 s2 hy1 hs => ?_)
      refine w_istore_n (lv' := [(3, vi y1), (0, .ref 0), (1, vi x1), (2, vi x2)]) dX11_makeForced_24 rfl (Nat.le_of_ble_eq_true rfl) rfl ?_
      refine w_iload_n 0 dX11_makeForced_25 rfl rfl ?_
      refine x_iconst dX11_makeForced_26 ?_
      refine x_icmpne hs dX11_makeForced_27 rfl (fun hs => ?_) (fun hs => ?_)
      · refine w_aload_n 1 dX11_makeForced_32 rfl rfl ?_
        refine x_getR 11 2 (b := 10) dX11_makeForced_33 (fxX11_28 rfl) rfl rfl (lt_of hnx (Nat.le_of_ble_eq_true rfl)) rfl ?_
        refine w_iload_n 0 dX11_makeForced_36 rfl rfl ?_
        refine x_V_V M_X9_play [vi y1] [] hs rfl dX11_makeForced_37 (lkX11_315 _ rfl) (lt_of hnx (Nat.le_of_ble_eq_true rfl)) rfl rfl (Nat.le_of_ble_eq_true rfl) (Nat.le_of_ble_eq_true rfl) (Nat.le_of_ble_eq_true rfl) (Nat.le_of_ble_eq_true rfl) (c_Po_play hnx 10 (show 10 ∈ posL by decide) y1 s2) (fun s4 hs4 hs => ?_)
        refine x_iinc (lv' := [(2, vi (x2 + 1)), (3, vi y1), (0, .ref 0), (1, vi x1)]) 3 dX11_makeForced_40 rfl (Nat.le_of_ble_eq_true rfl) rfl ?_
        refine w_goto dX11_makeForced_43 rfl ?_
        refine w_lv (lv' := [(0, .ref 0), (1, vi x1), (2, vi (x2 + 1))]) [2, 3, 0] rfl ?_
        cases hs
        exact hb _ rfl
      · refine w_lv (lv' := [(2, vi x2)]) [3] rfl ?_
        cases hs
        exact he0 _ rfl
set_option maxRecDepth 100000 in
theorem q_Hx_makeForced_l2 {C : Cx} {nx : Nat} (hnx : 80 ≤ nx) (x1 : Int) (x2 : Int) (s : Sg) {o : Int × Sg} (hs : Hx_makeForced_l2 x1 x2 s = some o) : ww C M_X11_makeForced 6 0 0 nx (QI nx o.2 o.1) (XF) nx 0 0 2 [(0, .ref 0), (1, vi x1), (2, vi x2)] [] (hp nx s) := by
  unfold Hx_makeForced_l2 at hs
  refine bnd_e hs (fun ρ hw hs => ?_)
  rcases ρ with ⟨x2_5, s_6⟩ | ⟨x2_7, s_8⟩
  · have hE : ww C M_X11_makeForced 6 0 0 nx (QI nx o.2 o.1) (XF) nx 0 0 30 [(2, vi x2_5)] [] (hp nx s_6) := by
      refine w_iload_n 0 dX11_makeForced_30 rfl rfl ?_
      cases hs
      exact x_ireturn dX11_makeForced_31 rfl rfl (Nat.le_of_ble_eq_true rfl) (Nat.le_of_ble_eq_true rfl) ⟨rfl, rfl⟩
    refine whl_w (P := fun σ => ww C M_X11_makeForced 6 0 0 nx (QI nx o.2 o.1) (XF) nx 0 0 2 [(0, .ref 0), (1, vi x1), (2, vi σ.1)] [] (hp nx σ.2)) (E := fun ρ => ρ = (.inl (x2_5, s_6))) hw rfl ?_
    intro σ o' hs' hb' he'
    exact q_Hx_makeForced_t2 hnx x1 σ.1 σ.2 hs' hb' (fun ρ e => by cases he' _ e; exact hE) (fun ρ e => by cases he' _ e)
  · have hE : ww C M_X11_makeForced 6 0 0 nx (QI nx o.2 o.1) (XF) nx 0 0 46 [(2, vi x2_7)] [] (hp nx s_8) := by
      refine w_iload_n 0 dX11_makeForced_46 rfl rfl ?_
      cases hs
      exact x_ireturn dX11_makeForced_47 rfl rfl (Nat.le_of_ble_eq_true rfl) (Nat.le_of_ble_eq_true rfl) ⟨rfl, rfl⟩
    refine whl_w (P := fun σ => ww C M_X11_makeForced 6 0 0 nx (QI nx o.2 o.1) (XF) nx 0 0 2 [(0, .ref 0), (1, vi x1), (2, vi σ.1)] [] (hp nx σ.2)) (E := fun ρ => ρ = (.inr (x2_7, s_8))) hw rfl ?_
    intro σ o' hs' hb' he'
    exact q_Hx_makeForced_t2 hnx x1 σ.1 σ.2 hs' hb' (fun ρ e => by cases he' _ e) (fun ρ e => by cases he' _ e; exact hE)
set_option maxRecDepth 100000 in
theorem c_Hx_makeForced {C : Cx} {nx : Nat} (hnx : 80 ≤ nx) (x1 : Int) (s : Sg) : ∀ o, Hx_makeForced x1 s = some o → mm C M_X11_makeForced 6 0 0 nx nx [.ref 0, vi x1] (hp nx s) (QI nx o.2 o.1) (XF) := by
  intro o hs
  unfold Hx_makeForced at hs
  refine mm_of rfl rfl (Nat.le_of_ble_eq_true rfl) ?_
  show ww C M_X11_makeForced 6 0 0 nx (QI nx o.2 o.1) (XF) nx 0 0 0 [(0, .ref 0), (1, vi x1)] [] (hp nx s)
  refine x_iconst dX11_makeForced_0 ?_
  refine w_istore_n (lv' := [(2, vi 0), (0, .ref 0), (1, vi x1)]) dX11_makeForced_1 rfl (Nat.le_of_ble_eq_true rfl) rfl ?_
  refine w_lv (lv' := [(0, .ref 0), (1, vi x1), (2, vi 0)]) [1, 2, 0] rfl ?_
  exact q_Hx_makeForced_l2 hnx x1 0 s hs
set_option maxRecDepth 100000 in
theorem c_Hx_playForced {C : Cx} {nx : Nat} (hnx : 80 ≤ nx) (x1 : Int) (s : Sg) : ∀ o, Hx_playForced x1 s = some o → mm C M_X11_playForced 10 0 0 nx nx [.ref 0, vi x1] (hp nx s) (QT nx o) (XF) := by
  intro o hs
  unfold Hx_playForced at hs
  refine mm_of rfl rfl (Nat.le_of_ble_eq_true rfl) ?_
  show ww C M_X11_playForced 10 0 0 nx (QT nx o) (XF) nx 0 0 0 [(0, .ref 0), (1, vi x1)] [] (hp nx s)
  refine w_iload_n 1 dX11_playForced_0 rfl rfl ?_
  refine x_iconst dX11_playForced_1 ?_
  refine x_bipush dX11_playForced_2 (by decide) ?_
  refine x_S_U M_X11_requireRange [vi x1, vi 1, vi 81] [] hs rfl dX11_playForced_4 (lkX11_190 _ rfl) (Nat.le_of_ble_eq_true rfl) (Nat.le_of_ble_eq_true rfl) (Nat.le_of_ble_eq_true rfl) (Nat.le_of_ble_eq_true rfl) (c_Hx_requireRange hnx x1 1 81 s) (fun y1 s2 hy1 hs => ?_)
  refine w_aload_n 0 dX11_playForced_7 rfl rfl ?_
  refine x_getR 11 4 (b := 16) dX11_playForced_8 (fxX11_38 rfl) rfl rfl (lt_of hnx (Nat.le_of_ble_eq_true rfl)) rfl ?_
  refine w_aload_n 0 dX11_playForced_11 rfl rfl ?_
  refine x_getR 11 2 (b := 10) dX11_playForced_12 (fxX11_28 rfl) rfl rfl (lt_of hnx (Nat.le_of_ble_eq_true rfl)) rfl ?_
  refine x_V_V M_X6_remember [.ref 10] [] hs rfl dX11_playForced_15 (lkX11_312 _ rfl) (lt_of hnx (Nat.le_of_ble_eq_true rfl)) rfl rfl (Nat.le_of_ble_eq_true rfl) (Nat.le_of_ble_eq_true rfl) (Nat.le_of_ble_eq_true rfl) (Nat.le_of_ble_eq_true rfl) (c_Hi_remember hnx 10 (show 10 ∈ posL by decide) s2) (fun s4 hs4 hs => ?_)
  refine w_aload_n 0 dX11_playForced_18 rfl rfl ?_
  refine w_iload_n 1 dX11_playForced_19 rfl rfl ?_
  refine x_V_B M_X11_makeForced [vi x1] [] hs rfl dX11_playForced_20 (lkX11_326 _ rfl) (lt_of hnx (Nat.le_of_ble_eq_true rfl)) rfl rfl (Nat.le_of_ble_eq_true rfl) (Nat.le_of_ble_eq_true rfl) (Nat.le_of_ble_eq_true rfl) (Nat.le_of_ble_eq_true rfl) (c_Hx_makeForced hnx x1 s4) (fun y5 s6 hy5 hs => ?_)
  cases hs
  exact x_ireturn dX11_playForced_23 rfl rfl (Nat.le_of_ble_eq_true rfl) (Nat.le_of_ble_eq_true rfl) ⟨_, rfl, rfl, rfl⟩
set_option maxRecDepth 100000 in
theorem c_Hx_forcedWinner {C : Cx} {nx : Nat} (hnx : 80 ≤ nx)  (s : Sg) : ∀ o, Hx_forcedWinner  s = some o → mm C M_X11_forcedWinner 7 0 0 nx nx [.ref 0] (hp nx s) (QI nx o.2 o.1) (XF) := by
  intro o hs
  unfold Hx_forcedWinner at hs
  refine mm_of rfl rfl (Nat.le_of_ble_eq_true rfl) ?_
  show ww C M_X11_forcedWinner 7 0 0 nx (QI nx o.2 o.1) (XF) nx 0 0 0 [(0, .ref 0)] [] (hp nx s)
  refine w_aload_n 0 dX11_forcedWinner_0 rfl rfl ?_
  refine x_getR 11 3 (b := 13) dX11_forcedWinner_1 (fxX11_32 rfl) rfl rfl (lt_of hnx (Nat.le_of_ble_eq_true rfl)) rfl ?_
  refine w_aload_n 0 dX11_forcedWinner_4 rfl rfl ?_
  refine x_getR 11 2 (b := 10) dX11_forcedWinner_5 (fxX11_28 rfl) rfl rfl (lt_of hnx (Nat.le_of_ble_eq_true rfl)) rfl ?_
  refine x_V_V M_X9_copy [.ref 10] [] hs rfl dX11_forcedWinner_8 (lkX11_140 _ rfl) (lt_of hnx (Nat.le_of_ble_eq_true rfl)) rfl rfl (Nat.le_of_ble_eq_true rfl) (Nat.le_of_ble_eq_true rfl) (Nat.le_of_ble_eq_true rfl) (Nat.le_of_ble_eq_true rfl) (c_Po_copy hnx 13 (show 13 ∈ posL by decide) 10 (show 10 ∈ posL by decide) s) (fun s2 hs2 hs => ?_)
  refine w_aload_n 0 dX11_forcedWinner_11 rfl rfl ?_
  refine x_bipush dX11_forcedWinner_12 (by decide) ?_
  refine x_V_B M_X11_makeForced [vi 81] [] hs rfl dX11_forcedWinner_14 (lkX11_326 _ rfl) (lt_of hnx (Nat.le_of_ble_eq_true rfl)) rfl rfl (Nat.le_of_ble_eq_true rfl) (Nat.le_of_ble_eq_true rfl) (Nat.le_of_ble_eq_true rfl) (Nat.le_of_ble_eq_true rfl) (c_Hx_makeForced hnx 81 s2) (fun y3 s4 hy3 hs => ?_)
  refine w_pop dX11_forcedWinner_17 rfl ?_
  refine w_aload_n 0 dX11_forcedWinner_18 rfl rfl ?_
  refine x_V_B M_X11_winner [] [] hs rfl dX11_forcedWinner_19 (lkX11_161 _ rfl) (lt_of hnx (Nat.le_of_ble_eq_true rfl)) rfl rfl (Nat.le_of_ble_eq_true rfl) (Nat.le_of_ble_eq_true rfl) (Nat.le_of_ble_eq_true rfl) (Nat.le_of_ble_eq_true rfl) (c_Hx_winner hnx s4) (fun y5 s6 hy5 hs => ?_)
  refine w_istore_n (lv' := [(1, vi y5), (0, .ref 0)]) dX11_forcedWinner_22 rfl (Nat.le_of_ble_eq_true rfl) rfl ?_
  refine w_aload_n 1 dX11_forcedWinner_23 rfl rfl ?_
  refine x_getR 11 2 (b := 10) dX11_forcedWinner_24 (fxX11_28 rfl) rfl rfl (lt_of hnx (Nat.le_of_ble_eq_true rfl)) rfl ?_
  refine w_aload_n 1 dX11_forcedWinner_27 rfl rfl ?_
  refine x_getR 11 3 (b := 13) dX11_forcedWinner_28 (fxX11_32 rfl) rfl rfl (lt_of hnx (Nat.le_of_ble_eq_true rfl)) rfl ?_
  refine x_V_V M_X9_copy [.ref 13] [] hs rfl dX11_forcedWinner_31 (lkX11_140 _ rfl) (lt_of hnx (Nat.le_of_ble_eq_true rfl)) rfl rfl (Nat.le_of_ble_eq_true rfl) (Nat.le_of_ble_eq_true rfl) (Nat.le_of_ble_eq_true rfl) (Nat.le_of_ble_eq_true rfl) (c_Po_copy hnx 10 (show 10 ∈ posL by decide) 13 (show 13 ∈ posL by decide) s6) (fun s8 hs8 hs => ?_)
  refine w_iload_n 0 dX11_forcedWinner_34 rfl rfl ?_
  cases hs
  exact x_ireturn dX11_forcedWinner_35 rfl rfl (Nat.le_of_ble_eq_true rfl) (Nat.le_of_ble_eq_true rfl) ⟨rfl, rfl⟩
set_option maxRecDepth 100000 in
theorem c_Hx_forcedRow {C : Cx} {nx : Nat} (hnx : 80 ≤ nx)  (s : Sg) : ∀ o, Hx_forcedRow  s = some o → mm C M_X11_forcedRow 7 0 0 nx nx [.ref 0] (hp nx s) (QI nx o.2 o.1) (XF) := by
  intro o hs
  unfold Hx_forcedRow at hs
  refine mm_of rfl rfl (Nat.le_of_ble_eq_true rfl) ?_
  show ww C M_X11_forcedRow 7 0 0 nx (QI nx o.2 o.1) (XF) nx 0 0 0 [(0, .ref 0)] [] (hp nx s)
  refine w_aload_n 0 dX11_forcedRow_0 rfl rfl ?_
  refine x_getR 11 3 (b := 13) dX11_forcedRow_1 (fxX11_32 rfl) rfl rfl (lt_of hnx (Nat.le_of_ble_eq_true rfl)) rfl ?_
  refine w_aload_n 0 dX11_forcedRow_4 rfl rfl ?_
  refine x_getR 11 2 (b := 10) dX11_forcedRow_5 (fxX11_28 rfl) rfl rfl (lt_of hnx (Nat.le_of_ble_eq_true rfl)) rfl ?_
  refine x_V_V M_X9_copy [.ref 10] [] hs rfl dX11_forcedRow_8 (lkX11_140 _ rfl) (lt_of hnx (Nat.le_of_ble_eq_true rfl)) rfl rfl (Nat.le_of_ble_eq_true rfl) (Nat.le_of_ble_eq_true rfl) (Nat.le_of_ble_eq_true rfl) (Nat.le_of_ble_eq_true rfl) (c_Po_copy hnx 13 (show 13 ∈ posL by decide) 10 (show 10 ∈ posL by decide) s) (fun s2 hs2 hs => ?_)
  refine w_aload_n 0 dX11_forcedRow_11 rfl rfl ?_
  refine x_bipush dX11_forcedRow_12 (by decide) ?_
  refine x_V_B M_X11_makeForced [vi 81] [] hs rfl dX11_forcedRow_14 (lkX11_326 _ rfl) (lt_of hnx (Nat.le_of_ble_eq_true rfl)) rfl rfl (Nat.le_of_ble_eq_true rfl) (Nat.le_of_ble_eq_true rfl) (Nat.le_of_ble_eq_true rfl) (Nat.le_of_ble_eq_true rfl) (c_Hx_makeForced hnx 81 s2) (fun y3 s4 hy3 hs => ?_)
  refine w_istore_n (lv' := [(1, vi y3), (0, .ref 0)]) dX11_forcedRow_17 rfl (Nat.le_of_ble_eq_true rfl) rfl ?_
  refine w_aload_n 1 dX11_forcedRow_18 rfl rfl ?_
  refine x_getR 11 2 (b := 10) dX11_forcedRow_19 (fxX11_28 rfl) rfl rfl (lt_of hnx (Nat.le_of_ble_eq_true rfl)) rfl ?_
  refine w_aload_n 1 dX11_forcedRow_22 rfl rfl ?_
  refine x_getR 11 3 (b := 13) dX11_forcedRow_23 (fxX11_32 rfl) rfl rfl (lt_of hnx (Nat.le_of_ble_eq_true rfl)) rfl ?_
  refine x_V_V M_X9_copy [.ref 13] [] hs rfl dX11_forcedRow_26 (lkX11_140 _ rfl) (lt_of hnx (Nat.le_of_ble_eq_true rfl)) rfl rfl (Nat.le_of_ble_eq_true rfl) (Nat.le_of_ble_eq_true rfl) (Nat.le_of_ble_eq_true rfl) (Nat.le_of_ble_eq_true rfl) (c_Po_copy hnx 10 (show 10 ∈ posL by decide) 13 (show 13 ∈ posL by decide) s4) (fun s6 hs6 hs => ?_)
  refine w_iload_n 0 dX11_forcedRow_29 rfl rfl ?_
  cases hs
  exact x_ireturn dX11_forcedRow_30 rfl rfl (Nat.le_of_ble_eq_true rfl) (Nat.le_of_ble_eq_true rfl) ⟨rfl, rfl⟩
set_option maxRecDepth 100000 in
theorem c_Hi_back {C : Cx} {nx : Nat} (hnx : 80 ≤ nx) (r1 : Nat) (h_r1 : isPos r1) (s : Sg) : ∀ o, Hi_back r1 s = some o → mm C M_X6_back 2 0 0 nx nx [.ref 16, .ref r1] (hp nx s) (QI nx o.2 o.1) (XF) := by
  intro o hs
  unfold Hi_back at hs
  refine mm_of rfl rfl (Nat.le_of_ble_eq_true rfl) ?_
  show ww C M_X6_back 2 0 0 nx (QI nx o.2 o.1) (XF) nx 0 0 0 [(0, .ref 16), (1, .ref r1)] [] (hp nx s)
  refine w_aload_n 0 dX6_back_0 rfl rfl ?_
  refine x_getI 6 2 dX6_back_1 (fxX6_18 rfl) rfl rfl (lt_of hnx (Nat.le_of_ble_eq_true rfl)) ?_
  refine x_ifne hs dX6_back_4 rfl (fun hs => ?_) (fun hs => ?_)
  · refine w_aload_n 0 dX6_back_11 rfl rfl ?_
    refine w_aload_n 0 dX6_back_12 rfl rfl ?_
    refine x_getI 6 2 dX6_back_13 (fxX6_18 rfl) rfl rfl (lt_of hnx (Nat.le_of_ble_eq_true rfl)) ?_
    refine x_iconst dX6_back_16 ?_
    refine x_isub dX6_back_17 ?_
    refine x_V_P M_X6_latest [vi ((gi s 16 2) - 1)] [] hs rfl dX6_back_18 (lkX6_25 _ rfl) (lt_of hnx (Nat.le_of_ble_eq_true rfl)) rfl rfl (Nat.le_of_ble_eq_true rfl) (Nat.le_of_ble_eq_true rfl) (Nat.le_of_ble_eq_true rfl) (Nat.le_of_ble_eq_true rfl) (c_Hi_latest hnx ((gi s 16 2) - 1) s) (fun y1 hy1 hs => ?_)
    have h_y1 := p_Hi_latest hy1
    refine w_astore_n (lv' := [(2, .ref y1), (0, .ref 16), (1, .ref r1)]) dX6_back_21 rfl (Nat.le_of_ble_eq_true rfl) rfl ?_
    refine w_aload_n 0 dX6_back_22 rfl rfl ?_
    refine w_ifnonnull dX6_back_23 rfl ?_
    refine w_aload_n 2 dX6_back_28 rfl rfl ?_
    refine w_aload_n 0 dX6_back_29 rfl rfl ?_
    refine x_V_V M_X9_copy [.ref y1] [] hs rfl dX6_back_30 (lkX6_29 _ rfl) (pos_n0 h_r1 hnx) (pos_s0 _ h_r1) rfl (Nat.le_of_ble_eq_true rfl) (Nat.le_of_ble_eq_true rfl) (Nat.le_of_ble_eq_true rfl) (Nat.le_of_ble_eq_true rfl) (c_Po_copy hnx r1 h_r1 y1 h_y1 s) (fun s3 hs3 hs => ?_)
    refine w_aload_n 1 dX6_back_33 rfl rfl ?_
    refine w_dup dX6_back_34 rfl ?_
    refine x_getI 6 2 dX6_back_35 (fxX6_18 rfl) rfl rfl (lt_of hnx (Nat.le_of_ble_eq_true rfl)) ?_
    refine x_iconst dX6_back_38 ?_
    refine x_isub dX6_back_39 ?_
    refine x_putI 6 2 dX6_back_40 (poX6_18 rfl) rfl rfl (lt_of hnx (Nat.le_of_ble_eq_true rfl)) ?_
    refine nam_s hs (fun s4 hs => ?_)
    refine x_iconst dX6_back_43 ?_
    cases hs
    exact x_zreturn (Or.inr rfl) dX6_back_44 rfl rfl (Nat.le_of_ble_eq_true rfl) (Nat.le_of_ble_eq_true rfl) ⟨rfl, rfl⟩
  · refine w_null dX6_back_7 ?_
    refine w_goto dX6_back_8 rfl ?_
    refine w_astore_nN (lv' := [(2, .null), (0, .ref 16), (1, .ref r1)]) dX6_back_21 rfl (Nat.le_of_ble_eq_true rfl) rfl ?_
    refine w_aload_nN 0 dX6_back_22 rfl rfl ?_
    refine w_ifnonnullN dX6_back_23 ?_
    refine x_iconst dX6_back_26 ?_
    cases hs
    exact x_zreturn (Or.inl rfl) dX6_back_27 rfl rfl (Nat.le_of_ble_eq_true rfl) (Nat.le_of_ble_eq_true rfl) ⟨rfl, rfl⟩
set_option maxRecDepth 100000 in
theorem c_Hx_undo {C : Cx} {nx : Nat} (hnx : 80 ≤ nx)  (s : Sg) : ∀ o, Hx_undo  s = some o → mm C M_X11_undo 3 0 0 nx nx [.ref 0] (hp nx s) (QI nx o.2 o.1) (XF) := by
  intro o hs
  unfold Hx_undo at hs
  refine mm_of rfl rfl (Nat.le_of_ble_eq_true rfl) ?_
  show ww C M_X11_undo 3 0 0 nx (QI nx o.2 o.1) (XF) nx 0 0 0 [(0, .ref 0)] [] (hp nx s)
  refine w_aload_n 0 dX11_undo_0 rfl rfl ?_
  refine x_getR 11 4 (b := 16) dX11_undo_1 (fxX11_38 rfl) rfl rfl (lt_of hnx (Nat.le_of_ble_eq_true rfl)) rfl ?_
  refine w_aload_n 0 dX11_undo_4 rfl rfl ?_
  refine x_getR 11 2 (b := 10) dX11_undo_5 (fxX11_28 rfl) rfl rfl (lt_of hnx (Nat.le_of_ble_eq_true rfl)) rfl ?_
  refine x_V_B M_X6_back [.ref 10] [] hs rfl dX11_undo_8 (lkX11_346 _ rfl) (lt_of hnx (Nat.le_of_ble_eq_true rfl)) rfl rfl (Nat.le_of_ble_eq_true rfl) (Nat.le_of_ble_eq_true rfl) (Nat.le_of_ble_eq_true rfl) (Nat.le_of_ble_eq_true rfl) (c_Hi_back hnx 10 (show 10 ∈ posL by decide) s) (fun y1 s2 hy1 hs => ?_)
  refine x_ifeq hs dX11_undo_11 rfl (fun hs => ?_) (fun hs => ?_)
  · refine x_iconst dX11_undo_24 ?_
    cases hs
    exact x_ireturn dX11_undo_25 rfl rfl (Nat.le_of_ble_eq_true rfl) (Nat.le_of_ble_eq_true rfl) ⟨rfl, rfl⟩
  · refine w_aload_n 0 dX11_undo_14 rfl rfl ?_
    refine x_getR 11 4 (b := 16) dX11_undo_15 (fxX11_38 rfl) rfl rfl (lt_of hnx (Nat.le_of_ble_eq_true rfl)) rfl ?_
    refine x_getI 6 2 dX11_undo_18 (fxX11_171 rfl) rfl rfl (lt_of hnx (Nat.le_of_ble_eq_true rfl)) ?_
    refine w_goto dX11_undo_21 rfl ?_
    cases hs
    exact x_ireturn dX11_undo_25 rfl rfl (Nat.le_of_ble_eq_true rfl) (Nat.le_of_ble_eq_true rfl) ⟨rfl, rfl⟩
set_option maxRecDepth 100000 in
theorem q_Hx_saveSnapshot_b21 {C : Cx} {nx : Nat} (hnx : 80 ≤ nx) (u_0 : Nat) (h_u_0 : isPos u_0) (s : Sg) {o : (Nat ⊕ Int) × Sg} (hs : Hx_saveSnapshot_b21 u_0 s = some o) : ww C M_X11_saveSnapshot 10 0 0 nx (QT nx o) (XF) nx 0 0 21 [(0, .ref 0)] [.ref u_0] (hp nx s) := by
  unfold Hx_saveSnapshot_b21 at hs
  refine w_astore_n (lv' := [(2, .ref u_0), (0, .ref 0)]) dX11_saveSnapshot_21 rfl (Nat.le_of_ble_eq_true rfl) rfl ?_
  refine w_aload_n 0 dX11_saveSnapshot_22 rfl rfl ?_
  refine w_aload_n 1 dX11_saveSnapshot_23 rfl rfl ?_
  refine x_getR 11 2 (b := 10) dX11_saveSnapshot_24 (fxX11_28 rfl) rfl rfl (lt_of hnx (Nat.le_of_ble_eq_true rfl)) rfl ?_
  refine x_V_V M_X9_copy [.ref 10] [] hs rfl dX11_saveSnapshot_27 (lkX11_140 _ rfl) (pos_n0 h_u_0 hnx) (pos_s0 _ h_u_0) rfl (Nat.le_of_ble_eq_true rfl) (Nat.le_of_ble_eq_true rfl) (Nat.le_of_ble_eq_true rfl) (Nat.le_of_ble_eq_true rfl) (c_Po_copy hnx u_0 h_u_0 10 (show 10 ∈ posL by decide) s) (fun s4 hs4 hs => ?_)
  refine w_aload_n 1 dX11_saveSnapshot_30 rfl rfl ?_
  refine x_getR 11 2 (b := 10) dX11_saveSnapshot_31 (fxX11_28 rfl) rfl rfl (lt_of hnx (Nat.le_of_ble_eq_true rfl)) rfl ?_
  refine x_iconst dX11_saveSnapshot_34 ?_
  refine x_V_I M_X9_count [vi (-1)] [] hs rfl dX11_saveSnapshot_35 (lkX11_151 _ rfl) (lt_of hnx (Nat.le_of_ble_eq_true rfl)) rfl rfl (Nat.le_of_ble_eq_true rfl) (Nat.le_of_ble_eq_true rfl) (Nat.le_of_ble_eq_true rfl) (Nat.le_of_ble_eq_true rfl) (c_Po_count hnx 10 (show 10 ∈ posL by decide) (-1) s4) (fun y5 hy5 hs => ?_)
  cases hs
  exact x_ireturn dX11_saveSnapshot_38 rfl rfl (Nat.le_of_ble_eq_true rfl) (Nat.le_of_ble_eq_true rfl) ⟨_, rfl, rfl, rfl⟩
set_option maxRecDepth 100000 in
theorem c_Hx_saveSnapshot {C : Cx} {nx : Nat} (hnx : 80 ≤ nx) (x1 : Int) (s : Sg) : ∀ o, Hx_saveSnapshot x1 s = some o → mm C M_X11_saveSnapshot 10 0 0 nx nx [.ref 0, vi x1] (hp nx s) (QT nx o) (XF) := by
  intro o hs
  unfold Hx_saveSnapshot at hs
  refine mm_of rfl rfl (Nat.le_of_ble_eq_true rfl) ?_
  show ww C M_X11_saveSnapshot 10 0 0 nx (QT nx o) (XF) nx 0 0 0 [(0, .ref 0), (1, vi x1)] [] (hp nx s)
  refine w_iload_n 1 dX11_saveSnapshot_0 rfl rfl ?_
  refine x_iconst dX11_saveSnapshot_1 ?_
  refine x_iconst dX11_saveSnapshot_2 ?_
  refine x_S_U M_X11_requireRange [vi x1, vi 0, vi 1] [] hs rfl dX11_saveSnapshot_3 (lkX11_190 _ rfl) (Nat.le_of_ble_eq_true rfl) (Nat.le_of_ble_eq_true rfl) (Nat.le_of_ble_eq_true rfl) (Nat.le_of_ble_eq_true rfl) (c_Hx_requireRange hnx x1 0 1 s) (fun y1 s2 hy1 hs => ?_)
  refine w_iload_n 1 dX11_saveSnapshot_6 rfl rfl ?_
  refine x_ifne hs dX11_saveSnapshot_7 rfl (fun hs => ?_) (fun hs => ?_)
  · refine w_aload_n 0 dX11_saveSnapshot_17 rfl rfl ?_
    refine x_getR 11 6 (b := 45) dX11_saveSnapshot_18 (fxX11_45 rfl) rfl rfl (lt_of hnx (Nat.le_of_ble_eq_true rfl)) rfl ?_
    refine w_lv (lv' := [(0, .ref 0)]) [0] rfl ?_
    exact q_Hx_saveSnapshot_b21 hnx 45 (show 45 ∈ posL by decide) s2 hs
  · refine w_aload_n 0 dX11_saveSnapshot_10 rfl rfl ?_
    refine x_getR 11 5 (b := 42) dX11_saveSnapshot_11 (fxX11_42 rfl) rfl rfl (lt_of hnx (Nat.le_of_ble_eq_true rfl)) rfl ?_
    refine w_goto dX11_saveSnapshot_14 rfl ?_
    refine w_lv (lv' := [(0, .ref 0)]) [0] rfl ?_
    exact q_Hx_saveSnapshot_b21 hnx 42 (show 42 ∈ posL by decide) s2 hs
set_option maxRecDepth 100000 in
theorem c_Po_isBegun {C : Cx} {nx : Nat} (hnx : 80 ≤ nx) (r0 : Nat) (h_r0 : isPos r0) (s : Sg) : ∀ o, Po_isBegun r0 s = some o → mm C M_X9_isBegun 0 0 0 nx nx [.ref r0] (hp nx s) (QI nx s o) (XF) := by
  intro o hs
  unfold Po_isBegun at hs
  refine mm_of rfl rfl (Nat.le_of_ble_eq_true rfl) ?_
  show ww C M_X9_isBegun 0 0 0 nx (QI nx s o) (XF) nx 0 0 0 [(0, .ref r0)] [] (hp nx s)
  refine w_aload_n 0 dX9_isBegun_0 rfl rfl ?_
  refine x_getI 9 2 dX9_isBegun_1 (fxX9_18 rfl) rfl (pos_s0 _ h_r0) (pos_n0 h_r0 hnx) ?_
  refine x_ifeq hs dX9_isBegun_4 rfl (fun hs => ?_) (fun hs => ?_)
  · refine x_iconst dX9_isBegun_11 ?_
    cases hs
    exact x_zreturn (Or.inl rfl) dX9_isBegun_12 rfl rfl (Nat.le_of_ble_eq_true rfl) (Nat.le_of_ble_eq_true rfl) ⟨rfl, rfl⟩
  · refine x_iconst dX9_isBegun_7 ?_
    refine w_goto dX9_isBegun_8 rfl ?_
    cases hs
    exact x_zreturn (Or.inr rfl) dX9_isBegun_12 rfl rfl (Nat.le_of_ble_eq_true rfl) (Nat.le_of_ble_eq_true rfl) ⟨rfl, rfl⟩
set_option maxRecDepth 100000 in
theorem q_Hx_restoreSnapshot_b21 {C : Cx} {nx : Nat} (hnx : 80 ≤ nx) (u_0 : Nat) (h_u_0 : isPos u_0) (s : Sg) {o : (Nat ⊕ Int) × Sg} (hs : Hx_restoreSnapshot_b21 u_0 s = some o) : ww C M_X11_restoreSnapshot 10 0 0 nx (QT nx o) (XF) nx 0 0 21 [(0, .ref 0)] [.ref u_0] (hp nx s) := by
  unfold Hx_restoreSnapshot_b21 at hs
  refine w_astore_n (lv' := [(2, .ref u_0), (0, .ref 0)]) dX11_restoreSnapshot_21 rfl (Nat.le_of_ble_eq_true rfl) rfl ?_
  refine w_aload_n 0 dX11_restoreSnapshot_22 rfl rfl ?_
  refine x_V_I M_X9_isBegun [] [] hs rfl dX11_restoreSnapshot_23 (lkX11_350 _ rfl) (pos_n0 h_u_0 hnx) (pos_s0 _ h_u_0) rfl (Nat.le_of_ble_eq_true rfl) (Nat.le_of_ble_eq_true rfl) (Nat.le_of_ble_eq_true rfl) (Nat.le_of_ble_eq_true rfl) (c_Po_isBegun hnx u_0 h_u_0 s) (fun y3 hy3 hs => ?_)
  refine x_ifne hs dX11_restoreSnapshot_26 rfl (fun hs => ?_) (fun hs => ?_)
  · refine w_aload_n 1 dX11_restoreSnapshot_31 rfl rfl ?_
    refine x_getR 11 2 (b := 10) dX11_restoreSnapshot_32 (fxX11_28 rfl) rfl rfl (lt_of hnx (Nat.le_of_ble_eq_true rfl)) rfl ?_
    refine w_aload_n 0 dX11_restoreSnapshot_35 rfl rfl ?_
    refine x_V_V M_X9_copy [.ref u_0] [] hs rfl dX11_restoreSnapshot_36 (lkX11_140 _ rfl) (lt_of hnx (Nat.le_of_ble_eq_true rfl)) rfl rfl (Nat.le_of_ble_eq_true rfl) (Nat.le_of_ble_eq_true rfl) (Nat.le_of_ble_eq_true rfl) (Nat.le_of_ble_eq_true rfl) (c_Po_copy hnx 10 (show 10 ∈ posL by decide) u_0 h_u_0 s) (fun s5 hs5 hs => ?_)
    refine w_aload_n 1 dX11_restoreSnapshot_39 rfl rfl ?_
    refine x_getR 11 0 (b := 1) dX11_restoreSnapshot_40 (fxX11_10 rfl) rfl rfl (lt_of hnx (Nat.le_of_ble_eq_true rfl)) rfl ?_
    refine w_aload_n 1 dX11_restoreSnapshot_43 rfl rfl ?_
    refine x_getR 11 2 (b := 10) dX11_restoreSnapshot_44 (fxX11_28 rfl) rfl rfl (lt_of hnx (Nat.le_of_ble_eq_true rfl)) rfl ?_
    refine x_getI 9 2 dX11_restoreSnapshot_47 (fxX11_131 rfl) rfl rfl (lt_of hnx (Nat.le_of_ble_eq_true rfl)) ?_
    refine x_V_V M_X5_fit [vi (gi s5 10 2)] [] hs rfl dX11_restoreSnapshot_50 (lkX11_109 _ rfl) (lt_of hnx (Nat.le_of_ble_eq_true rfl)) rfl rfl (Nat.le_of_ble_eq_true rfl) (Nat.le_of_ble_eq_true rfl) (Nat.le_of_ble_eq_true rfl) (Nat.le_of_ble_eq_true rfl) (c_Gr_fit hnx (gi s5 10 2) s5) (fun s7 hs7 hs => ?_)
    refine w_aload_n 1 dX11_restoreSnapshot_53 rfl rfl ?_
    refine x_getR 11 4 (b := 16) dX11_restoreSnapshot_54 (fxX11_38 rfl) rfl rfl (lt_of hnx (Nat.le_of_ble_eq_true rfl)) rfl ?_
    refine x_V_V M_X6_clear [] [] hs rfl dX11_restoreSnapshot_57 (lkX11_144 _ rfl) (lt_of hnx (Nat.le_of_ble_eq_true rfl)) rfl rfl (Nat.le_of_ble_eq_true rfl) (Nat.le_of_ble_eq_true rfl) (Nat.le_of_ble_eq_true rfl) (Nat.le_of_ble_eq_true rfl) (c_Hi_clear hnx s7) (fun s9 hs9 hs => ?_)
    refine w_aload_n 1 dX11_restoreSnapshot_60 rfl rfl ?_
    refine x_getR 11 2 (b := 10) dX11_restoreSnapshot_61 (fxX11_28 rfl) rfl rfl (lt_of hnx (Nat.le_of_ble_eq_true rfl)) rfl ?_
    refine x_iconst dX11_restoreSnapshot_64 ?_
    refine x_V_I M_X9_count [vi (-1)] [] hs rfl dX11_restoreSnapshot_65 (lkX11_151 _ rfl) (lt_of hnx (Nat.le_of_ble_eq_true rfl)) rfl rfl (Nat.le_of_ble_eq_true rfl) (Nat.le_of_ble_eq_true rfl) (Nat.le_of_ble_eq_true rfl) (Nat.le_of_ble_eq_true rfl) (c_Po_count hnx 10 (show 10 ∈ posL by decide) (-1) s9) (fun y10 hy10 hs => ?_)
    cases hs
    exact x_ireturn dX11_restoreSnapshot_68 rfl rfl (Nat.le_of_ble_eq_true rfl) (Nat.le_of_ble_eq_true rfl) ⟨_, rfl, rfl, rfl⟩
  · refine x_iconst dX11_restoreSnapshot_29 ?_
    cases hs
    exact x_ireturn dX11_restoreSnapshot_30 rfl rfl (Nat.le_of_ble_eq_true rfl) (Nat.le_of_ble_eq_true rfl) ⟨_, rfl, rfl, rfl⟩
set_option maxRecDepth 100000 in
theorem c_Hx_restoreSnapshot {C : Cx} {nx : Nat} (hnx : 80 ≤ nx) (x1 : Int) (s : Sg) : ∀ o, Hx_restoreSnapshot x1 s = some o → mm C M_X11_restoreSnapshot 10 0 0 nx nx [.ref 0, vi x1] (hp nx s) (QT nx o) (XF) := by
  intro o hs
  unfold Hx_restoreSnapshot at hs
  refine mm_of rfl rfl (Nat.le_of_ble_eq_true rfl) ?_
  show ww C M_X11_restoreSnapshot 10 0 0 nx (QT nx o) (XF) nx 0 0 0 [(0, .ref 0), (1, vi x1)] [] (hp nx s)
  refine w_iload_n 1 dX11_restoreSnapshot_0 rfl rfl ?_
  refine x_iconst dX11_restoreSnapshot_1 ?_
  refine x_iconst dX11_restoreSnapshot_2 ?_
  refine x_S_U M_X11_requireRange [vi x1, vi 0, vi 1] [] hs rfl dX11_restoreSnapshot_3 (lkX11_190 _ rfl) (Nat.le_of_ble_eq_true rfl) (Nat.le_of_ble_eq_true rfl) (Nat.le_of_ble_eq_true rfl) (Nat.le_of_ble_eq_true rfl) (c_Hx_requireRange hnx x1 0 1 s) (fun y1 s2 hy1 hs => ?_)
  refine w_iload_n 1 dX11_restoreSnapshot_6 rfl rfl ?_
  refine x_ifne hs dX11_restoreSnapshot_7 rfl (fun hs => ?_) (fun hs => ?_)
  · refine w_aload_n 0 dX11_restoreSnapshot_17 rfl rfl ?_
    refine x_getR 11 6 (b := 45) dX11_restoreSnapshot_18 (fxX11_45 rfl) rfl rfl (lt_of hnx (Nat.le_of_ble_eq_true rfl)) rfl ?_
    refine w_lv (lv' := [(0, .ref 0)]) [0] rfl ?_
    exact q_Hx_restoreSnapshot_b21 hnx 45 (show 45 ∈ posL by decide) s2 hs
  · refine w_aload_n 0 dX11_restoreSnapshot_10 rfl rfl ?_
    refine x_getR 11 5 (b := 42) dX11_restoreSnapshot_11 (fxX11_42 rfl) rfl rfl (lt_of hnx (Nat.le_of_ble_eq_true rfl)) rfl ?_
    refine w_goto dX11_restoreSnapshot_14 rfl ?_
    refine w_lv (lv' := [(0, .ref 0)]) [0] rfl ?_
    exact q_Hx_restoreSnapshot_b21 hnx 42 (show 42 ∈ posL by decide) s2 hs

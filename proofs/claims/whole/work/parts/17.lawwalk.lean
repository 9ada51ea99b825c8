section DALD
variable {C : Cx} {M : Mk} {d mc ms ne : Nat} {Qr : Option Value → Hp → Prop} {Qx : String → Hp → Prop} {nx k n pc : Nat} {lv : List (Nat × Value)} {st : List Value} {s : Sg}
theorem x_dald {a m1 : Nat} {i : Int} (hi : 0 ≤ i ∧ i < (m1 : Int)) (hm : m1 ≤ 4096) (hd : decode (mB M) pc = .ok (.daload, 1)) (hA : shp a = some (.inr (.double, m1))) (ha : a < nx) (kk : ww C M d mc ms ne Qr Qx nx k n (pc + 1) lv (.double (gd s a i.toNat) :: st) (hp nx s)) : ww C M d mc ms ne Qr Qx nx k n pc lv (vi i :: .ref a :: st) (hp nx s) := by
  obtain ⟨h1, h2⟩ := ix_v hi hm
  refine w_dald hd hA ha h1 ?_
  rw [h2]
  exact kk
end DALD
set_option maxRecDepth 100000 in
theorem c_La_size {C : Cx} {nx : Nat} (hnx : 102 ≤ nx) (hnK : KN ≤ nx) (x1 : Int) (s : Sg) : ∀ o, La_size x1 s = some o → mmH C M_L_size 10 1 6 nx nx [.ref 0, vi x1, .ref 100] (hp nx s) (QI nx o.2 o.1) (XF) := by
  intro o hs
  unfold La_size at hs
  refine mmH_of rfl (Nat.le_of_ble_eq_true rfl) ?_
  show ww C M_L_size 10 1 6 nx (QI nx o.2 o.1) (XF) nx 0 0 0 [(0, .ref 0), (1, vi x1), (2, .ref 100)] [] (hp nx s)
  refine w_aload_n 2 dL_size_0 rfl rfl ?_
  refine x_iconst dL_size_1 ?_
  refine w_aload_n 0 dL_size_2 rfl rfl ?_
  refine w_iload_n 1 dL_size_3 rfl rfl ?_
  refine x_Vc_T M_X11_size [vi x1] [vi 0, .ref 100] hs rfl dL_size_4 (lkL_7 _ rfl) (lt_of hnx (Nat.le_of_ble_eq_true rfl)) rfl rfl (Nat.le_of_ble_eq_true rfl) (Nat.le_of_ble_eq_true rfl) (Nat.le_of_ble_eq_true rfl) (Nat.le_of_ble_eq_true rfl) (c_Hx_size (Nat.le_trans (Nat.le_of_ble_eq_true rfl) hnx) hnK x1 s) rfl (fun _ => hn_L_size_0) (fun h => absurd rfl h) (fun y1 s2 hy1 hs => ?_)
  refine grd_e hs (fun hg3 hs => ?_)
  refine x_i2l dL_size_7 hg3 ?_
  refine grd_e hs (fun hg4 hs => ?_)
  refine x_last ⟨by decide, by decide⟩ (Nat.le_of_ble_eq_true rfl) dL_size_8 rfl (lt_of hnx (Nat.le_of_ble_eq_true rfl)) ?_
  refine nam_s hs (fun s5 hs => ?_)
  refine w_goto dL_size_9 rfl ?_
  refine x_iconst dL_size_15 ?_
  cases hs
  exact x_ireturn dL_size_16 rfl rfl (Nat.le_of_ble_eq_true rfl) (Nat.le_of_ble_eq_true rfl) ⟨rfl, rfl⟩
set_option maxRecDepth 100000 in
theorem c_La_cell {C : Cx} {nx : Nat} (hnx : 102 ≤ nx) (hnK : KN ≤ nx) (x1 : Int) (s : Sg) : ∀ o, La_cell x1 s = some o → mmH C M_L_cell 11 1 6 nx nx [.ref 0, vi x1, .ref 100] (hp nx s) (QI nx o.2 o.1) (XF) := by
  intro o hs
  unfold La_cell at hs
  refine mmH_of rfl (Nat.le_of_ble_eq_true rfl) ?_
  show ww C M_L_cell 11 1 6 nx (QI nx o.2 o.1) (XF) nx 0 0 0 [(0, .ref 0), (1, vi x1), (2, .ref 100)] [] (hp nx s)
  refine w_aload_n 2 dL_cell_0 rfl rfl ?_
  refine x_iconst dL_cell_1 ?_
  refine w_aload_n 0 dL_cell_2 rfl rfl ?_
  refine w_iload_n 1 dL_cell_3 rfl rfl ?_
  refine x_Vc_T M_X11_cell [vi x1] [vi 0, .ref 100] hs rfl dL_cell_4 (lkL_15 _ rfl) (lt_of hnx (Nat.le_of_ble_eq_true rfl)) rfl rfl (Nat.le_of_ble_eq_true rfl) (Nat.le_of_ble_eq_true rfl) (Nat.le_of_ble_eq_true rfl) (Nat.le_of_ble_eq_true rfl) (c_Hx_cell (Nat.le_trans (Nat.le_of_ble_eq_true rfl) hnx) hnK x1 s) rfl (fun h => absurd rfl h) (fun _ => hn_L_cell_1) (fun y1 s2 hy1 hs => ?_)
  refine grd_e hs (fun hg3 hs => ?_)
  refine x_i2l dL_cell_7 hg3 ?_
  refine grd_e hs (fun hg4 hs => ?_)
  refine x_last ⟨by decide, by decide⟩ (Nat.le_of_ble_eq_true rfl) dL_cell_8 rfl (lt_of hnx (Nat.le_of_ble_eq_true rfl)) ?_
  refine nam_s hs (fun s5 hs => ?_)
  refine w_goto dL_cell_9 rfl ?_
  refine x_iconst dL_cell_15 ?_
  cases hs
  exact x_ireturn dL_cell_16 rfl rfl (Nat.le_of_ble_eq_true rfl) (Nat.le_of_ble_eq_true rfl) ⟨rfl, rfl⟩
set_option maxRecDepth 100000 in
theorem c_La_neighbour {C : Cx} {nx : Nat} (hnx : 102 ≤ nx) (hnK : KN ≤ nx) (x1 : Int) (x2 : Int) (s : Sg) : ∀ o, La_neighbour x1 x2 s = some o → mmH C M_L_neighbour 11 1 6 nx nx [.ref 0, vi x1, vi x2, .ref 100] (hp nx s) (QI nx o.2 o.1) (XF) := by
  intro o hs
  unfold La_neighbour at hs
  refine mmH_of rfl (Nat.le_of_ble_eq_true rfl) ?_
  show ww C M_L_neighbour 11 1 6 nx (QI nx o.2 o.1) (XF) nx 0 0 0 [(0, .ref 0), (1, vi x1), (2, vi x2), (3, .ref 100)] [] (hp nx s)
  refine w_aload_n 3 dL_neighbour_0 rfl rfl ?_
  refine x_iconst dL_neighbour_1 ?_
  refine w_aload_n 0 dL_neighbour_2 rfl rfl ?_
  refine w_iload_n 1 dL_neighbour_3 rfl rfl ?_
  refine w_iload_n 2 dL_neighbour_4 rfl rfl ?_
  refine x_Vc_T M_X11_neighbour [vi x1, vi x2] [vi 0, .ref 100] hs rfl dL_neighbour_5 (lkL_20 _ rfl) (lt_of hnx (Nat.le_of_ble_eq_true rfl)) rfl rfl (Nat.le_of_ble_eq_true rfl) (Nat.le_of_ble_eq_true rfl) (Nat.le_of_ble_eq_true rfl) (Nat.le_of_ble_eq_true rfl) (c_Hx_neighbour (Nat.le_trans (Nat.le_of_ble_eq_true rfl) hnx) hnK x1 x2 s) rfl (fun h => absurd rfl h) (fun _ => hn_L_neighbour_1) (fun y1 s2 hy1 hs => ?_)
  refine grd_e hs (fun hg3 hs => ?_)
  refine x_i2l dL_neighbour_8 hg3 ?_
  refine grd_e hs (fun hg4 hs => ?_)
  refine x_last ⟨by decide, by decide⟩ (Nat.le_of_ble_eq_true rfl) dL_neighbour_9 rfl (lt_of hnx (Nat.le_of_ble_eq_true rfl)) ?_
  refine nam_s hs (fun s5 hs => ?_)
  refine w_goto dL_neighbour_10 rfl ?_
  refine x_iconst dL_neighbour_17 ?_
  cases hs
  exact x_ireturn dL_neighbour_18 rfl rfl (Nat.le_of_ble_eq_true rfl) (Nat.le_of_ble_eq_true rfl) ⟨rfl, rfl⟩
set_option maxRecDepth 100000 in
theorem c_La_group {C : Cx} {nx : Nat} (hnx : 102 ≤ nx) (hnK : KN ≤ nx) (x1 : Int) (x2 : Int) (s : Sg) : ∀ o, La_group x1 x2 s = some o → mmH C M_L_group 11 2 12 nx nx [.ref 0, vi x1, vi x2, .ref 100] (hp nx s) (QI nx o.2 o.1) (XF) := by
  intro o hs
  unfold La_group at hs
  refine mmH_of rfl (Nat.le_of_ble_eq_true rfl) ?_
  show ww C M_L_group 11 2 12 nx (QI nx o.2 o.1) (XF) nx 0 0 0 [(0, .ref 0), (1, vi x1), (2, vi x2), (3, .ref 100)] [] (hp nx s)
  refine w_aload_n 3 dL_group_0 rfl rfl ?_
  refine x_iconst dL_group_1 ?_
  refine w_aload_n 0 dL_group_2 rfl rfl ?_
  refine w_iload_n 1 dL_group_3 rfl rfl ?_
  refine w_iload_n 2 dL_group_4 rfl rfl ?_
  refine x_Vc_T M_X11_group [vi x1, vi x2] [vi 0, .ref 100] hs rfl dL_group_5 (lkL_24 _ rfl) (lt_of hnx (Nat.le_of_ble_eq_true rfl)) rfl rfl (Nat.le_of_ble_eq_true rfl) (Nat.le_of_ble_eq_true rfl) (Nat.le_of_ble_eq_true rfl) (Nat.le_of_ble_eq_true rfl) (c_Hx_group (Nat.le_trans (Nat.le_of_ble_eq_true rfl) hnx) hnK x1 x2 s) rfl (fun _ => hn_L_group_0) (fun _ => hn_L_group_1) (fun y1 s2 hy1 hs => ?_)
  refine grd_e hs (fun hg3 hs => ?_)
  refine x_i2l dL_group_8 hg3 ?_
  refine grd_e hs (fun hg4 hs => ?_)
  refine x_last ⟨by decide, by decide⟩ (Nat.le_of_ble_eq_true rfl) dL_group_9 rfl (lt_of hnx (Nat.le_of_ble_eq_true rfl)) ?_
  refine nam_s hs (fun s5 hs => ?_)
  refine w_goto dL_group_10 rfl ?_
  refine x_iconst dL_group_21 ?_
  cases hs
  exact x_ireturn dL_group_22 rfl rfl (Nat.le_of_ble_eq_true rfl) (Nat.le_of_ble_eq_true rfl) ⟨rfl, rfl⟩
set_option maxRecDepth 100000 in
theorem c_La_groups {C : Cx} {nx : Nat} (hnx : 102 ≤ nx) (hnK : KN ≤ nx) (x1 : Int) (s : Sg) : ∀ o, La_groups x1 s = some o → mmH C M_L_groups 11 1 6 nx nx [.ref 0, vi x1, .ref 100] (hp nx s) (QI nx o.2 o.1) (XF) := by
  intro o hs
  unfold La_groups at hs
  refine mmH_of rfl (Nat.le_of_ble_eq_true rfl) ?_
  show ww C M_L_groups 11 1 6 nx (QI nx o.2 o.1) (XF) nx 0 0 0 [(0, .ref 0), (1, vi x1), (2, .ref 100)] [] (hp nx s)
  refine w_aload_n 2 dL_groups_0 rfl rfl ?_
  refine x_iconst dL_groups_1 ?_
  refine w_aload_n 0 dL_groups_2 rfl rfl ?_
  refine w_iload_n 1 dL_groups_3 rfl rfl ?_
  refine x_Vc_T M_X11_groups [vi x1] [vi 0, .ref 100] hs rfl dL_groups_4 (lkL_27 _ rfl) (lt_of hnx (Nat.le_of_ble_eq_true rfl)) rfl rfl (Nat.le_of_ble_eq_true rfl) (Nat.le_of_ble_eq_true rfl) (Nat.le_of_ble_eq_true rfl) (Nat.le_of_ble_eq_true rfl) (c_Hx_groups (Nat.le_trans (Nat.le_of_ble_eq_true rfl) hnx) hnK x1 s) rfl (fun _ => hn_L_groups_0) (fun h => absurd rfl h) (fun y1 s2 hy1 hs => ?_)
  refine grd_e hs (fun hg3 hs => ?_)
  refine x_i2l dL_groups_7 hg3 ?_
  refine grd_e hs (fun hg4 hs => ?_)
  refine x_last ⟨by decide, by decide⟩ (Nat.le_of_ble_eq_true rfl) dL_groups_8 rfl (lt_of hnx (Nat.le_of_ble_eq_true rfl)) ?_
  refine nam_s hs (fun s5 hs => ?_)
  refine w_goto dL_groups_9 rfl ?_
  refine x_iconst dL_groups_15 ?_
  cases hs
  exact x_ireturn dL_groups_16 rfl rfl (Nat.le_of_ble_eq_true rfl) (Nat.le_of_ble_eq_true rfl) ⟨rfl, rfl⟩
set_option maxRecDepth 100000 in
theorem c_La_largest {C : Cx} {nx : Nat} (hnx : 102 ≤ nx) (hnK : KN ≤ nx) (x1 : Int) (s : Sg) : ∀ o, La_largest x1 s = some o → mmH C M_L_largest 11 1 6 nx nx [.ref 0, vi x1, .ref 100] (hp nx s) (QI nx o.2 o.1) (XF) := by
  intro o hs
  unfold La_largest at hs
  refine mmH_of rfl (Nat.le_of_ble_eq_true rfl) ?_
  show ww C M_L_largest 11 1 6 nx (QI nx o.2 o.1) (XF) nx 0 0 0 [(0, .ref 0), (1, vi x1), (2, .ref 100)] [] (hp nx s)
  refine w_aload_n 2 dL_largest_0 rfl rfl ?_
  refine x_iconst dL_largest_1 ?_
  refine w_aload_n 0 dL_largest_2 rfl rfl ?_
  refine w_iload_n 1 dL_largest_3 rfl rfl ?_
  refine x_Vc_T M_X11_largest [vi x1] [vi 0, .ref 100] hs rfl dL_largest_4 (lkL_30 _ rfl) (lt_of hnx (Nat.le_of_ble_eq_true rfl)) rfl rfl (Nat.le_of_ble_eq_true rfl) (Nat.le_of_ble_eq_true rfl) (Nat.le_of_ble_eq_true rfl) (Nat.le_of_ble_eq_true rfl) (c_Hx_largest (Nat.le_trans (Nat.le_of_ble_eq_true rfl) hnx) hnK x1 s) rfl (fun _ => hn_L_largest_0) (fun h => absurd rfl h) (fun y1 s2 hy1 hs => ?_)
  refine grd_e hs (fun hg3 hs => ?_)
  refine x_i2l dL_largest_7 hg3 ?_
  refine grd_e hs (fun hg4 hs => ?_)
  refine x_last ⟨by decide, by decide⟩ (Nat.le_of_ble_eq_true rfl) dL_largest_8 rfl (lt_of hnx (Nat.le_of_ble_eq_true rfl)) ?_
  refine nam_s hs (fun s5 hs => ?_)
  refine w_goto dL_largest_9 rfl ?_
  refine x_iconst dL_largest_15 ?_
  cases hs
  exact x_ireturn dL_largest_16 rfl rfl (Nat.le_of_ble_eq_true rfl) (Nat.le_of_ble_eq_true rfl) ⟨rfl, rfl⟩
set_option maxRecDepth 100000 in
theorem q_La_isBridge_b16 {C : Cx} {nx : Nat} (hnx : 102 ≤ nx) (hnK : KN ≤ nx) (t1 : Int) (t2 : Int) (s : Sg) {o : Int × Sg} (hs : La_isBridge_b16 t1 t2 s = some o) : ww C M_L_isBridge 11 2 12 nx (QI nx o.2 o.1) (XF) nx 2 12 16 [] [vl t2, vi t1, .ref 100] (hp nx s) := by
  unfold La_isBridge_b16 at hs
  refine grd_e hs (fun hg3 hs => ?_)
  refine x_last hg3 (Nat.le_of_ble_eq_true rfl) dL_isBridge_16 rfl (lt_of hnx (Nat.le_of_ble_eq_true rfl)) ?_
  refine nam_s hs (fun s4 hs => ?_)
  refine w_goto dL_isBridge_17 rfl ?_
  refine x_iconst dL_isBridge_24 ?_
  cases hs
  exact x_ireturn dL_isBridge_25 rfl rfl (Nat.le_of_ble_eq_true rfl) (Nat.le_of_ble_eq_true rfl) ⟨rfl, rfl⟩
set_option maxRecDepth 100000 in
theorem c_La_isBridge {C : Cx} {nx : Nat} (hnx : 102 ≤ nx) (hnK : KN ≤ nx) (x1 : Int) (x2 : Int) (s : Sg) : ∀ o, La_isBridge x1 x2 s = some o → mmH C M_L_isBridge 11 2 12 nx nx [.ref 0, vi x1, vi x2, .ref 100] (hp nx s) (QI nx o.2 o.1) (XF) := by
  intro o hs
  unfold La_isBridge at hs
  refine mmH_of rfl (Nat.le_of_ble_eq_true rfl) ?_
  show ww C M_L_isBridge 11 2 12 nx (QI nx o.2 o.1) (XF) nx 0 0 0 [(0, .ref 0), (1, vi x1), (2, vi x2), (3, .ref 100)] [] (hp nx s)
  refine w_aload_n 3 dL_isBridge_0 rfl rfl ?_
  refine x_iconst dL_isBridge_1 ?_
  refine w_aload_n 0 dL_isBridge_2 rfl rfl ?_
  refine w_iload_n 1 dL_isBridge_3 rfl rfl ?_
  refine w_iload_n 2 dL_isBridge_4 rfl rfl ?_
  refine x_Vc_T M_X11_isBridge [vi x1, vi x2] [vi 0, .ref 100] hs rfl dL_isBridge_5 (lkL_33 _ rfl) (lt_of hnx (Nat.le_of_ble_eq_true rfl)) rfl rfl (Nat.le_of_ble_eq_true rfl) (Nat.le_of_ble_eq_true rfl) (Nat.le_of_ble_eq_true rfl) (Nat.le_of_ble_eq_true rfl) (c_Hx_isBridge (Nat.le_trans (Nat.le_of_ble_eq_true rfl) hnx) hnK x1 x2 s) rfl (fun h => absurd rfl h) (fun _ => hn_L_isBridge_1) (fun y1 s2 hy1 hs => ?_)
  refine x_ifeq hs dL_isBridge_8 rfl (fun hs => ?_) (fun hs => ?_)
  · refine x_lconst (x := 0) dL_isBridge_15 (by decide) ?_
    refine w_lv (lv' := []) [] rfl ?_
    exact q_La_isBridge_b16 hnx hnK 0 0 s2 hs
  · refine x_lconst (x := 1) dL_isBridge_11 (by decide) ?_
    refine w_goto dL_isBridge_12 rfl ?_
    refine w_lv (lv' := []) [] rfl ?_
    exact q_La_isBridge_b16 hnx hnK 0 1 s2 hs
set_option maxRecDepth 100000 in
theorem c_La_bridges {C : Cx} {nx : Nat} (hnx : 102 ≤ nx) (hnK : KN ≤ nx) (x1 : Int) (x2 : Int) (s : Sg) : ∀ o, La_bridges x1 x2 s = some o → mmH C M_L_bridges 11 1 6 nx nx [.ref 0, vi x1, vi x2, .ref 100] (hp nx s) (QI nx o.2 o.1) (XF) := by
  intro o hs
  unfold La_bridges at hs
  refine mmH_of rfl (Nat.le_of_ble_eq_true rfl) ?_
  show ww C M_L_bridges 11 1 6 nx (QI nx o.2 o.1) (XF) nx 0 0 0 [(0, .ref 0), (1, vi x1), (2, vi x2), (3, .ref 100)] [] (hp nx s)
  refine w_aload_n 3 dL_bridges_0 rfl rfl ?_
  refine x_iconst dL_bridges_1 ?_
  refine w_aload_n 0 dL_bridges_2 rfl rfl ?_
  refine w_iload_n 1 dL_bridges_3 rfl rfl ?_
  refine w_iload_n 2 dL_bridges_4 rfl rfl ?_
  refine x_Vc_T M_X11_bridges [vi x1, vi x2] [vi 0, .ref 100] hs rfl dL_bridges_5 (lkL_37 _ rfl) (lt_of hnx (Nat.le_of_ble_eq_true rfl)) rfl rfl (Nat.le_of_ble_eq_true rfl) (Nat.le_of_ble_eq_true rfl) (Nat.le_of_ble_eq_true rfl) (Nat.le_of_ble_eq_true rfl) (c_Hx_bridges (Nat.le_trans (Nat.le_of_ble_eq_true rfl) hnx) hnK x1 x2 s) rfl (fun _ => hn_L_bridges_0) (fun h => absurd rfl h) (fun y1 s2 hy1 hs => ?_)
  refine grd_e hs (fun hg3 hs => ?_)
  refine x_i2l dL_bridges_8 hg3 ?_
  refine grd_e hs (fun hg4 hs => ?_)
  refine x_last ⟨by decide, by decide⟩ (Nat.le_of_ble_eq_true rfl) dL_bridges_9 rfl (lt_of hnx (Nat.le_of_ble_eq_true rfl)) ?_
  refine nam_s hs (fun s5 hs => ?_)
  refine w_goto dL_bridges_10 rfl ?_
  refine x_iconst dL_bridges_17 ?_
  cases hs
  exact x_ireturn dL_bridges_18 rfl rfl (Nat.le_of_ble_eq_true rfl) (Nat.le_of_ble_eq_true rfl) ⟨rfl, rfl⟩
set_option maxRecDepth 100000 in
theorem c_La_bridge {C : Cx} {nx : Nat} (hnx : 102 ≤ nx) (hnK : KN ≤ nx) (x1 : Int) (x2 : Int) (x3 : Int) (s : Sg) : ∀ o, La_bridge x1 x2 x3 s = some o → mmH C M_L_bridge 11 2 12 nx nx [.ref 0, vi x1, vi x2, vi x3, .ref 100] (hp nx s) (QI nx o.2 o.1) (XF) := by
  intro o hs
  unfold La_bridge at hs
  refine mmH_of rfl (Nat.le_of_ble_eq_true rfl) ?_
  show ww C M_L_bridge 11 2 12 nx (QI nx o.2 o.1) (XF) nx 0 0 0 [(0, .ref 0), (1, vi x1), (2, vi x2), (3, vi x3), (4, .ref 100)] [] (hp nx s)
  refine w_aload 4 dL_bridge_0 rfl ?_
  refine x_iconst dL_bridge_2 ?_
  refine w_aload_n 0 dL_bridge_3 rfl rfl ?_
  refine w_iload_n 1 dL_bridge_4 rfl rfl ?_
  refine w_iload_n 2 dL_bridge_5 rfl rfl ?_
  refine w_iload_n 3 dL_bridge_6 rfl rfl ?_
  refine x_Vc_T M_X11_bridge [vi x1, vi x2, vi x3] [vi 0, .ref 100] hs rfl dL_bridge_7 (lkL_41 _ rfl) (lt_of hnx (Nat.le_of_ble_eq_true rfl)) rfl rfl (Nat.le_of_ble_eq_true rfl) (Nat.le_of_ble_eq_true rfl) (Nat.le_of_ble_eq_true rfl) (Nat.le_of_ble_eq_true rfl) (c_Hx_bridge (Nat.le_trans (Nat.le_of_ble_eq_true rfl) hnx) hnK x1 x2 x3 s) rfl (fun _ => hn_L_bridge_0) (fun h => absurd rfl h) (fun y1 s2 hy1 hs => ?_)
  refine grd_e hs (fun hg3 hs => ?_)
  refine x_i2l dL_bridge_10 hg3 ?_
  refine grd_e hs (fun hg4 hs => ?_)
  refine x_last ⟨by decide, by decide⟩ (Nat.le_of_ble_eq_true rfl) dL_bridge_11 rfl (lt_of hnx (Nat.le_of_ble_eq_true rfl)) ?_
  refine nam_s hs (fun s5 hs => ?_)
  refine w_goto dL_bridge_12 rfl ?_
  refine x_iconst dL_bridge_19 ?_
  cases hs
  exact x_ireturn dL_bridge_20 rfl rfl (Nat.le_of_ble_eq_true rfl) (Nat.le_of_ble_eq_true rfl) ⟨rfl, rfl⟩
set_option maxRecDepth 100000 in
theorem c_La_chain {C : Cx} {nx : Nat} (hnx : 102 ≤ nx) (hnK : KN ≤ nx) (x1 : Int) (x2 : Int) (s : Sg) : ∀ o, La_chain x1 x2 s = some o → mmH C M_L_chain 11 2 12 nx nx [.ref 0, vi x1, vi x2, .ref 100] (hp nx s) (QI nx o.2 o.1) (XF) := by
  intro o hs
  unfold La_chain at hs
  refine mmH_of rfl (Nat.le_of_ble_eq_true rfl) ?_
  show ww C M_L_chain 11 2 12 nx (QI nx o.2 o.1) (XF) nx 0 0 0 [(0, .ref 0), (1, vi x1), (2, vi x2), (3, .ref 100)] [] (hp nx s)
  refine w_aload_n 3 dL_chain_0 rfl rfl ?_
  refine x_iconst dL_chain_1 ?_
  refine w_aload_n 0 dL_chain_2 rfl rfl ?_
  refine w_iload_n 1 dL_chain_3 rfl rfl ?_
  refine w_iload_n 2 dL_chain_4 rfl rfl ?_
  refine x_Vc_T M_X11_chain [vi x1, vi x2] [vi 0, .ref 100] hs rfl dL_chain_5 (lkL_45 _ rfl) (lt_of hnx (Nat.le_of_ble_eq_true rfl)) rfl rfl (Nat.le_of_ble_eq_true rfl) (Nat.le_of_ble_eq_true rfl) (Nat.le_of_ble_eq_true rfl) (Nat.le_of_ble_eq_true rfl) (c_Hx_chain (Nat.le_trans (Nat.le_of_ble_eq_true rfl) hnx) hnK x1 x2 s) rfl (fun _ => hn_L_chain_0) (fun _ => hn_L_chain_1) (fun y1 s2 hy1 hs => ?_)
  refine grd_e hs (fun hg3 hs => ?_)
  refine x_i2l dL_chain_8 hg3 ?_
  refine grd_e hs (fun hg4 hs => ?_)
  refine x_last ⟨by decide, by decide⟩ (Nat.le_of_ble_eq_true rfl) dL_chain_9 rfl (lt_of hnx (Nat.le_of_ble_eq_true rfl)) ?_
  refine nam_s hs (fun s5 hs => ?_)
  refine w_goto dL_chain_10 rfl ?_
  refine x_iconst dL_chain_21 ?_
  cases hs
  exact x_ireturn dL_chain_22 rfl rfl (Nat.le_of_ble_eq_true rfl) (Nat.le_of_ble_eq_true rfl) ⟨rfl, rfl⟩
set_option maxRecDepth 100000 in
theorem c_La_chains {C : Cx} {nx : Nat} (hnx : 102 ≤ nx) (hnK : KN ≤ nx) (x1 : Int) (s : Sg) : ∀ o, La_chains x1 s = some o → mmH C M_L_chains 11 1 6 nx nx [.ref 0, vi x1, .ref 100] (hp nx s) (QI nx o.2 o.1) (XF) := by
  intro o hs
  unfold La_chains at hs
  refine mmH_of rfl (Nat.le_of_ble_eq_true rfl) ?_
  show ww C M_L_chains 11 1 6 nx (QI nx o.2 o.1) (XF) nx 0 0 0 [(0, .ref 0), (1, vi x1), (2, .ref 100)] [] (hp nx s)
  refine w_aload_n 2 dL_chains_0 rfl rfl ?_
  refine x_iconst dL_chains_1 ?_
  refine w_aload_n 0 dL_chains_2 rfl rfl ?_
  refine w_iload_n 1 dL_chains_3 rfl rfl ?_
  refine x_Vc_T M_X11_chains [vi x1] [vi 0, .ref 100] hs rfl dL_chains_4 (lkL_48 _ rfl) (lt_of hnx (Nat.le_of_ble_eq_true rfl)) rfl rfl (Nat.le_of_ble_eq_true rfl) (Nat.le_of_ble_eq_true rfl) (Nat.le_of_ble_eq_true rfl) (Nat.le_of_ble_eq_true rfl) (c_Hx_chains (Nat.le_trans (Nat.le_of_ble_eq_true rfl) hnx) hnK x1 s) rfl (fun _ => hn_L_chains_0) (fun h => absurd rfl h) (fun y1 s2 hy1 hs => ?_)
  refine grd_e hs (fun hg3 hs => ?_)
  refine x_i2l dL_chains_7 hg3 ?_
  refine grd_e hs (fun hg4 hs => ?_)
  refine x_last ⟨by decide, by decide⟩ (Nat.le_of_ble_eq_true rfl) dL_chains_8 rfl (lt_of hnx (Nat.le_of_ble_eq_true rfl)) ?_
  refine nam_s hs (fun s5 hs => ?_)
  refine w_goto dL_chains_9 rfl ?_
  refine x_iconst dL_chains_15 ?_
  cases hs
  exact x_ireturn dL_chains_16 rfl rfl (Nat.le_of_ble_eq_true rfl) (Nat.le_of_ble_eq_true rfl) ⟨rfl, rfl⟩
set_option maxRecDepth 100000 in
theorem q_La_isSafe_b15 {C : Cx} {nx : Nat} (hnx : 102 ≤ nx) (hnK : KN ≤ nx) (t1 : Int) (t2 : Int) (s : Sg) {o : Int × Sg} (hs : La_isSafe_b15 t1 t2 s = some o) : ww C M_L_isSafe 11 1 6 nx (QI nx o.2 o.1) (XF) nx 1 6 15 [] [vl t2, vi t1, .ref 100] (hp nx s) := by
  unfold La_isSafe_b15 at hs
  refine grd_e hs (fun hg3 hs => ?_)
  refine x_last hg3 (Nat.le_of_ble_eq_true rfl) dL_isSafe_15 rfl (lt_of hnx (Nat.le_of_ble_eq_true rfl)) ?_
  refine nam_s hs (fun s4 hs => ?_)
  refine w_goto dL_isSafe_16 rfl ?_
  refine x_iconst dL_isSafe_22 ?_
  cases hs
  exact x_ireturn dL_isSafe_23 rfl rfl (Nat.le_of_ble_eq_true rfl) (Nat.le_of_ble_eq_true rfl) ⟨rfl, rfl⟩
set_option maxRecDepth 100000 in
theorem c_La_isSafe {C : Cx} {nx : Nat} (hnx : 102 ≤ nx) (hnK : KN ≤ nx) (x1 : Int) (s : Sg) : ∀ o, La_isSafe x1 s = some o → mmH C M_L_isSafe 11 1 6 nx nx [.ref 0, vi x1, .ref 100] (hp nx s) (QI nx o.2 o.1) (XF) := by
  intro o hs
  unfold La_isSafe at hs
  refine mmH_of rfl (Nat.le_of_ble_eq_true rfl) ?_
  show ww C M_L_isSafe 11 1 6 nx (QI nx o.2 o.1) (XF) nx 0 0 0 [(0, .ref 0), (1, vi x1), (2, .ref 100)] [] (hp nx s)
  refine w_aload_n 2 dL_isSafe_0 rfl rfl ?_
  refine x_iconst dL_isSafe_1 ?_
  refine w_aload_n 0 dL_isSafe_2 rfl rfl ?_
  refine w_iload_n 1 dL_isSafe_3 rfl rfl ?_
  refine x_Vc_T M_X11_isSafe [vi x1] [vi 0, .ref 100] hs rfl dL_isSafe_4 (lkL_51 _ rfl) (lt_of hnx (Nat.le_of_ble_eq_true rfl)) rfl rfl (Nat.le_of_ble_eq_true rfl) (Nat.le_of_ble_eq_true rfl) (Nat.le_of_ble_eq_true rfl) (Nat.le_of_ble_eq_true rfl) (c_Hx_isSafe (Nat.le_trans (Nat.le_of_ble_eq_true rfl) hnx) hnK x1 s) rfl (fun _ => hn_L_isSafe_0) (fun h => absurd rfl h) (fun y1 s2 hy1 hs => ?_)
  refine x_ifeq hs dL_isSafe_7 rfl (fun hs => ?_) (fun hs => ?_)
  · refine x_lconst (x := 0) dL_isSafe_14 (by decide) ?_
    refine w_lv (lv' := []) [] rfl ?_
    exact q_La_isSafe_b15 hnx hnK 0 0 s2 hs
  · refine x_lconst (x := 1) dL_isSafe_10 (by decide) ?_
    refine w_goto dL_isSafe_11 rfl ?_
    refine w_lv (lv' := []) [] rfl ?_
    exact q_La_isSafe_b15 hnx hnK 0 1 s2 hs
set_option maxRecDepth 100000 in
theorem c_La_answer {C : Cx} {nx : Nat} (hnx : 102 ≤ nx) (hnK : KN ≤ nx) (x1 : Int) (s : Sg) : ∀ o, La_answer x1 s = some o → mmH C M_L_answer 11 1 6 nx nx [.ref 0, vi x1, .ref 100] (hp nx s) (QI nx o.2 o.1) (XF) := by
  intro o hs
  unfold La_answer at hs
  refine mmH_of rfl (Nat.le_of_ble_eq_true rfl) ?_
  show ww C M_L_answer 11 1 6 nx (QI nx o.2 o.1) (XF) nx 0 0 0 [(0, .ref 0), (1, vi x1), (2, .ref 100)] [] (hp nx s)
  refine w_aload_n 2 dL_answer_0 rfl rfl ?_
  refine x_iconst dL_answer_1 ?_
  refine w_aload_n 0 dL_answer_2 rfl rfl ?_
  refine w_iload_n 1 dL_answer_3 rfl rfl ?_
  refine x_Vc_T M_X11_answer [vi x1] [vi 0, .ref 100] hs rfl dL_answer_4 (lkL_55 _ rfl) (lt_of hnx (Nat.le_of_ble_eq_true rfl)) rfl rfl (Nat.le_of_ble_eq_true rfl) (Nat.le_of_ble_eq_true rfl) (Nat.le_of_ble_eq_true rfl) (Nat.le_of_ble_eq_true rfl) (c_Hx_answer (Nat.le_trans (Nat.le_of_ble_eq_true rfl) hnx) hnK x1 s) rfl (fun h => absurd rfl h) (fun _ => hn_L_answer_1) (fun y1 s2 hy1 hs => ?_)
  refine grd_e hs (fun hg3 hs => ?_)
  refine x_i2l dL_answer_7 hg3 ?_
  refine grd_e hs (fun hg4 hs => ?_)
  refine x_last ⟨by decide, by decide⟩ (Nat.le_of_ble_eq_true rfl) dL_answer_8 rfl (lt_of hnx (Nat.le_of_ble_eq_true rfl)) ?_
  refine nam_s hs (fun s5 hs => ?_)
  refine w_goto dL_answer_9 rfl ?_
  refine x_iconst dL_answer_15 ?_
  cases hs
  exact x_ireturn dL_answer_16 rfl rfl (Nat.le_of_ble_eq_true rfl) (Nat.le_of_ble_eq_true rfl) ⟨rfl, rfl⟩
set_option maxRecDepth 100000 in
theorem c_La_threats {C : Cx} {nx : Nat} (hnx : 102 ≤ nx) (hnK : KN ≤ nx) (x1 : Int) (s : Sg) : ∀ o, La_threats x1 s = some o → mmH C M_L_threats 11 1 6 nx nx [.ref 0, vi x1, .ref 100] (hp nx s) (QI nx o.2 o.1) (XF) := by
  intro o hs
  unfold La_threats at hs
  refine mmH_of rfl (Nat.le_of_ble_eq_true rfl) ?_
  show ww C M_L_threats 11 1 6 nx (QI nx o.2 o.1) (XF) nx 0 0 0 [(0, .ref 0), (1, vi x1), (2, .ref 100)] [] (hp nx s)
  refine w_aload_n 2 dL_threats_0 rfl rfl ?_
  refine x_iconst dL_threats_1 ?_
  refine w_aload_n 0 dL_threats_2 rfl rfl ?_
  refine w_iload_n 1 dL_threats_3 rfl rfl ?_
  refine x_Vc_T M_X11_threats [vi x1] [vi 0, .ref 100] hs rfl dL_threats_4 (lkL_58 _ rfl) (lt_of hnx (Nat.le_of_ble_eq_true rfl)) rfl rfl (Nat.le_of_ble_eq_true rfl) (Nat.le_of_ble_eq_true rfl) (Nat.le_of_ble_eq_true rfl) (Nat.le_of_ble_eq_true rfl) (c_Hx_threats (Nat.le_trans (Nat.le_of_ble_eq_true rfl) hnx) hnK x1 s) rfl (fun _ => hn_L_threats_0) (fun h => absurd rfl h) (fun y1 s2 hy1 hs => ?_)
  refine grd_e hs (fun hg3 hs => ?_)
  refine x_i2l dL_threats_7 hg3 ?_
  refine grd_e hs (fun hg4 hs => ?_)
  refine x_last ⟨by decide, by decide⟩ (Nat.le_of_ble_eq_true rfl) dL_threats_8 rfl (lt_of hnx (Nat.le_of_ble_eq_true rfl)) ?_
  refine nam_s hs (fun s5 hs => ?_)
  refine w_goto dL_threats_9 rfl ?_
  refine x_iconst dL_threats_15 ?_
  cases hs
  exact x_ireturn dL_threats_16 rfl rfl (Nat.le_of_ble_eq_true rfl) (Nat.le_of_ble_eq_true rfl) ⟨rfl, rfl⟩
set_option maxRecDepth 100000 in
theorem c_La_threat {C : Cx} {nx : Nat} (hnx : 102 ≤ nx) (hnK : KN ≤ nx) (x1 : Int) (x2 : Int) (s : Sg) : ∀ o, La_threat x1 x2 s = some o → mmH C M_L_threat 11 1 6 nx nx [.ref 0, vi x1, vi x2, .ref 100] (hp nx s) (QI nx o.2 o.1) (XF) := by
  intro o hs
  unfold La_threat at hs
  refine mmH_of rfl (Nat.le_of_ble_eq_true rfl) ?_
  show ww C M_L_threat 11 1 6 nx (QI nx o.2 o.1) (XF) nx 0 0 0 [(0, .ref 0), (1, vi x1), (2, vi x2), (3, .ref 100)] [] (hp nx s)
  refine w_aload_n 3 dL_threat_0 rfl rfl ?_
  refine x_iconst dL_threat_1 ?_
  refine w_aload_n 0 dL_threat_2 rfl rfl ?_
  refine w_iload_n 1 dL_threat_3 rfl rfl ?_
  refine w_iload_n 2 dL_threat_4 rfl rfl ?_
  refine x_Vc_T M_X11_threat [vi x1, vi x2] [vi 0, .ref 100] hs rfl dL_threat_5 (lkL_61 _ rfl) (lt_of hnx (Nat.le_of_ble_eq_true rfl)) rfl rfl (Nat.le_of_ble_eq_true rfl) (Nat.le_of_ble_eq_true rfl) (Nat.le_of_ble_eq_true rfl) (Nat.le_of_ble_eq_true rfl) (c_Hx_threat (Nat.le_trans (Nat.le_of_ble_eq_true rfl) hnx) hnK x1 x2 s) rfl (fun _ => hn_L_threat_0) (fun h => absurd rfl h) (fun y1 s2 hy1 hs => ?_)
  refine grd_e hs (fun hg3 hs => ?_)
  refine x_i2l dL_threat_8 hg3 ?_
  refine grd_e hs (fun hg4 hs => ?_)
  refine x_last ⟨by decide, by decide⟩ (Nat.le_of_ble_eq_true rfl) dL_threat_9 rfl (lt_of hnx (Nat.le_of_ble_eq_true rfl)) ?_
  refine nam_s hs (fun s5 hs => ?_)
  refine w_goto dL_threat_10 rfl ?_
  refine x_iconst dL_threat_17 ?_
  cases hs
  exact x_ireturn dL_threat_18 rfl rfl (Nat.le_of_ble_eq_true rfl) (Nat.le_of_ble_eq_true rfl) ⟨rfl, rfl⟩
set_option maxRecDepth 100000 in
theorem c_La_distance {C : Cx} {nx : Nat} (hnx : 102 ≤ nx) (hnK : KN ≤ nx) (x1 : Int) (s : Sg) : ∀ o, La_distance x1 s = some o → mmH C M_L_distance 11 1 6 nx nx [.ref 0, vi x1, .ref 100] (hp nx s) (QI nx o.2 o.1) (XF) := by
  intro o hs
  unfold La_distance at hs
  refine mmH_of rfl (Nat.le_of_ble_eq_true rfl) ?_
  show ww C M_L_distance 11 1 6 nx (QI nx o.2 o.1) (XF) nx 0 0 0 [(0, .ref 0), (1, vi x1), (2, .ref 100)] [] (hp nx s)
  refine w_aload_n 2 dL_distance_0 rfl rfl ?_
  refine x_iconst dL_distance_1 ?_
  refine w_aload_n 0 dL_distance_2 rfl rfl ?_
  refine w_iload_n 1 dL_distance_3 rfl rfl ?_
  refine x_Vc_T M_X11_distance [vi x1] [vi 0, .ref 100] hs rfl dL_distance_4 (lkL_64 _ rfl) (lt_of hnx (Nat.le_of_ble_eq_true rfl)) rfl rfl (Nat.le_of_ble_eq_true rfl) (Nat.le_of_ble_eq_true rfl) (Nat.le_of_ble_eq_true rfl) (Nat.le_of_ble_eq_true rfl) (c_Hx_distance (Nat.le_trans (Nat.le_of_ble_eq_true rfl) hnx) hnK x1 s) rfl (fun _ => hn_L_distance_0) (fun h => absurd rfl h) (fun y1 s2 hy1 hs => ?_)
  refine grd_e hs (fun hg3 hs => ?_)
  refine x_i2l dL_distance_7 hg3 ?_
  refine grd_e hs (fun hg4 hs => ?_)
  refine x_last ⟨by decide, by decide⟩ (Nat.le_of_ble_eq_true rfl) dL_distance_8 rfl (lt_of hnx (Nat.le_of_ble_eq_true rfl)) ?_
  refine nam_s hs (fun s5 hs => ?_)
  refine w_goto dL_distance_9 rfl ?_
  refine x_iconst dL_distance_15 ?_
  cases hs
  exact x_ireturn dL_distance_16 rfl rfl (Nat.le_of_ble_eq_true rfl) (Nat.le_of_ble_eq_true rfl) ⟨rfl, rfl⟩
set_option maxRecDepth 100000 in
theorem c_La_through {C : Cx} {nx : Nat} (hnx : 102 ≤ nx) (hnK : KN ≤ nx) (x1 : Int) (x2 : Int) (s : Sg) : ∀ o, La_through x1 x2 s = some o → mmH C M_L_through 11 2 12 nx nx [.ref 0, vi x1, vi x2, .ref 100] (hp nx s) (QI nx o.2 o.1) (XF) := by
  intro o hs
  unfold La_through at hs
  refine mmH_of rfl (Nat.le_of_ble_eq_true rfl) ?_
  show ww C M_L_through 11 2 12 nx (QI nx o.2 o.1) (XF) nx 0 0 0 [(0, .ref 0), (1, vi x1), (2, vi x2), (3, .ref 100)] [] (hp nx s)
  refine w_aload_n 3 dL_through_0 rfl rfl ?_
  refine x_iconst dL_through_1 ?_
  refine w_aload_n 0 dL_through_2 rfl rfl ?_
  refine w_iload_n 1 dL_through_3 rfl rfl ?_
  refine w_iload_n 2 dL_through_4 rfl rfl ?_
  refine x_Vc_T M_X11_through [vi x1, vi x2] [vi 0, .ref 100] hs rfl dL_through_5 (lkL_67 _ rfl) (lt_of hnx (Nat.le_of_ble_eq_true rfl)) rfl rfl (Nat.le_of_ble_eq_true rfl) (Nat.le_of_ble_eq_true rfl) (Nat.le_of_ble_eq_true rfl) (Nat.le_of_ble_eq_true rfl) (c_Hx_through (Nat.le_trans (Nat.le_of_ble_eq_true rfl) hnx) hnK x1 x2 s) rfl (fun _ => hn_L_through_0) (fun _ => hn_L_through_1) (fun y1 s2 hy1 hs => ?_)
  refine grd_e hs (fun hg3 hs => ?_)
  refine x_i2l dL_through_8 hg3 ?_
  refine grd_e hs (fun hg4 hs => ?_)
  refine x_last ⟨by decide, by decide⟩ (Nat.le_of_ble_eq_true rfl) dL_through_9 rfl (lt_of hnx (Nat.le_of_ble_eq_true rfl)) ?_
  refine nam_s hs (fun s5 hs => ?_)
  refine w_goto dL_through_10 rfl ?_
  refine x_iconst dL_through_21 ?_
  cases hs
  exact x_ireturn dL_through_22 rfl rfl (Nat.le_of_ble_eq_true rfl) (Nat.le_of_ble_eq_true rfl) ⟨rfl, rfl⟩
set_option maxRecDepth 100000 in
theorem c_La_useful {C : Cx} {nx : Nat} (hnx : 102 ≤ nx) (hnK : KN ≤ nx) (x1 : Int) (s : Sg) : ∀ o, La_useful x1 s = some o → mmH C M_L_useful 11 1 6 nx nx [.ref 0, vi x1, .ref 100] (hp nx s) (QI nx o.2 o.1) (XF) := by
  intro o hs
  unfold La_useful at hs
  refine mmH_of rfl (Nat.le_of_ble_eq_true rfl) ?_
  show ww C M_L_useful 11 1 6 nx (QI nx o.2 o.1) (XF) nx 0 0 0 [(0, .ref 0), (1, vi x1), (2, .ref 100)] [] (hp nx s)
  refine w_aload_n 2 dL_useful_0 rfl rfl ?_
  refine x_iconst dL_useful_1 ?_
  refine w_aload_n 0 dL_useful_2 rfl rfl ?_
  refine w_iload_n 1 dL_useful_3 rfl rfl ?_
  refine x_Vc_T M_X11_useful [vi x1] [vi 0, .ref 100] hs rfl dL_useful_4 (lkL_70 _ rfl) (lt_of hnx (Nat.le_of_ble_eq_true rfl)) rfl rfl (Nat.le_of_ble_eq_true rfl) (Nat.le_of_ble_eq_true rfl) (Nat.le_of_ble_eq_true rfl) (Nat.le_of_ble_eq_true rfl) (c_Hx_useful (Nat.le_trans (Nat.le_of_ble_eq_true rfl) hnx) hnK x1 s) rfl (fun _ => hn_L_useful_0) (fun h => absurd rfl h) (fun y1 s2 hy1 hs => ?_)
  refine grd_e hs (fun hg3 hs => ?_)
  refine x_i2l dL_useful_7 hg3 ?_
  refine grd_e hs (fun hg4 hs => ?_)
  refine x_last ⟨by decide, by decide⟩ (Nat.le_of_ble_eq_true rfl) dL_useful_8 rfl (lt_of hnx (Nat.le_of_ble_eq_true rfl)) ?_
  refine nam_s hs (fun s5 hs => ?_)
  refine w_goto dL_useful_9 rfl ?_
  refine x_iconst dL_useful_15 ?_
  cases hs
  exact x_ireturn dL_useful_16 rfl rfl (Nat.le_of_ble_eq_true rfl) (Nat.le_of_ble_eq_true rfl) ⟨rfl, rfl⟩
set_option maxRecDepth 100000 in
theorem c_La_potential {C : Cx} {nx : Nat} (hnx : 102 ≤ nx) (hnK : KN ≤ nx) (x1 : Int) (x2 : Int) (x3 : Int) (s : Sg) : ∀ o, La_potential x1 x2 x3 s = some o → mmH C M_L_potential 11 3 18 nx nx [.ref 0, vi x1, vi x2, vi x3, .ref 100] (hp nx s) (QI nx o.2 o.1) (XF) := by
  intro o hs
  unfold La_potential at hs
  refine mmH_of rfl (Nat.le_of_ble_eq_true rfl) ?_
  show ww C M_L_potential 11 3 18 nx (QI nx o.2 o.1) (XF) nx 0 0 0 [(0, .ref 0), (1, vi x1), (2, vi x2), (3, vi x3), (4, .ref 100)] [] (hp nx s)
  refine w_aload 4 dL_potential_0 rfl ?_
  refine x_iconst dL_potential_2 ?_
  refine w_aload_n 0 dL_potential_3 rfl rfl ?_
  refine w_iload_n 1 dL_potential_4 rfl rfl ?_
  refine w_iload_n 2 dL_potential_5 rfl rfl ?_
  refine w_iload_n 3 dL_potential_6 rfl rfl ?_
  refine x_Vc_T M_X11_potential [vi x1, vi x2, vi x3] [vi 0, .ref 100] hs rfl dL_potential_7 (lkL_73 _ rfl) (lt_of hnx (Nat.le_of_ble_eq_true rfl)) rfl rfl (Nat.le_of_ble_eq_true rfl) (Nat.le_of_ble_eq_true rfl) (Nat.le_of_ble_eq_true rfl) (Nat.le_of_ble_eq_true rfl) (c_Hx_potential (Nat.le_trans (Nat.le_of_ble_eq_true rfl) hnx) hnK x1 x2 x3 s) rfl (fun _ => hn_L_potential_0) (fun _ => hn_L_potential_1) (fun y1 s2 hy1 hs => ?_)
  refine grd_e hs (fun hg3 hs => ?_)
  refine x_i2l dL_potential_10 hg3 ?_
  refine grd_e hs (fun hg4 hs => ?_)
  refine x_last ⟨by decide, by decide⟩ (Nat.le_of_ble_eq_true rfl) dL_potential_11 rfl (lt_of hnx (Nat.le_of_ble_eq_true rfl)) ?_
  refine nam_s hs (fun s5 hs => ?_)
  refine w_goto dL_potential_12 rfl ?_
  refine x_iconst dL_potential_23 ?_
  cases hs
  exact x_ireturn dL_potential_24 rfl rfl (Nat.le_of_ble_eq_true rfl) (Nat.le_of_ble_eq_true rfl) ⟨rfl, rfl⟩
set_option maxRecDepth 100000 in
theorem c_La_current {C : Cx} {nx : Nat} (hnx : 102 ≤ nx) (hnK : KN ≤ nx) (x1 : Int) (x2 : Int) (s : Sg) : ∀ o, La_current x1 x2 s = some o → mmH C M_L_current 11 2 12 nx nx [.ref 0, vi x1, vi x2, .ref 100] (hp nx s) (QI nx o.2 o.1) (XF) := by
  intro o hs
  unfold La_current at hs
  refine mmH_of rfl (Nat.le_of_ble_eq_true rfl) ?_
  show ww C M_L_current 11 2 12 nx (QI nx o.2 o.1) (XF) nx 0 0 0 [(0, .ref 0), (1, vi x1), (2, vi x2), (3, .ref 100)] [] (hp nx s)
  refine w_aload_n 3 dL_current_0 rfl rfl ?_
  refine x_iconst dL_current_1 ?_
  refine w_aload_n 0 dL_current_2 rfl rfl ?_
  refine w_iload_n 1 dL_current_3 rfl rfl ?_
  refine w_iload_n 2 dL_current_4 rfl rfl ?_
  refine x_Vc_T M_X11_current [vi x1, vi x2] [vi 0, .ref 100] hs rfl dL_current_5 (lkL_76 _ rfl) (lt_of hnx (Nat.le_of_ble_eq_true rfl)) rfl rfl (Nat.le_of_ble_eq_true rfl) (Nat.le_of_ble_eq_true rfl) (Nat.le_of_ble_eq_true rfl) (Nat.le_of_ble_eq_true rfl) (c_Hx_current (Nat.le_trans (Nat.le_of_ble_eq_true rfl) hnx) hnK x1 x2 s) rfl (fun _ => hn_L_current_0) (fun h => absurd rfl h) (fun y1 s2 hy1 hs => ?_)
  refine grd_e hs (fun hg3 hs => ?_)
  refine x_i2l dL_current_8 hg3 ?_
  refine grd_e hs (fun hg4 hs => ?_)
  refine x_last ⟨by decide, by decide⟩ (Nat.le_of_ble_eq_true rfl) dL_current_9 rfl (lt_of hnx (Nat.le_of_ble_eq_true rfl)) ?_
  refine nam_s hs (fun s5 hs => ?_)
  refine w_goto dL_current_10 rfl ?_
  refine x_iconst dL_current_17 ?_
  cases hs
  exact x_ireturn dL_current_18 rfl rfl (Nat.le_of_ble_eq_true rfl) (Nat.le_of_ble_eq_true rfl) ⟨rfl, rfl⟩
set_option maxRecDepth 100000 in
theorem c_La_resistance {C : Cx} {nx : Nat} (hnx : 102 ≤ nx) (hnK : KN ≤ nx) (x1 : Int) (x2 : Int) (s : Sg) : ∀ o, La_resistance x1 x2 s = some o → mmH C M_L_resistance 11 2 12 nx nx [.ref 0, vi x1, vi x2, .ref 101] (hp nx s) (QI nx o.2 o.1) (XF) := by
  intro o hs
  unfold La_resistance at hs
  refine mmH_of rfl (Nat.le_of_ble_eq_true rfl) ?_
  show ww C M_L_resistance 11 2 12 nx (QI nx o.2 o.1) (XF) nx 0 0 0 [(0, .ref 0), (1, vi x1), (2, vi x2), (3, .ref 101)] [] (hp nx s)
  refine w_aload_n 3 dL_resistance_0 rfl rfl ?_
  refine x_iconst dL_resistance_1 ?_
  refine w_aload_n 0 dL_resistance_2 rfl rfl ?_
  refine w_iload_n 1 dL_resistance_3 rfl rfl ?_
  refine w_iload_n 2 dL_resistance_4 rfl rfl ?_
  refine x_Vc_TF M_X11_resistance [vi x1, vi x2] [vi 0, .ref 101] hs rfl dL_resistance_5 (lkL_79 _ rfl) (lt_of hnx (Nat.le_of_ble_eq_true rfl)) rfl rfl (Nat.le_of_ble_eq_true rfl) (Nat.le_of_ble_eq_true rfl) (Nat.le_of_ble_eq_true rfl) (Nat.le_of_ble_eq_true rfl) (c_Hx_resistance (Nat.le_trans (Nat.le_of_ble_eq_true rfl) hnx) hnK x1 x2 s) rfl (fun _ => hn_L_resistance_0) (fun h => absurd rfl h) (fun y1 s2 hy1 hs => ?_)
  refine grd_e hs (fun hg3 hs => ?_)
  refine w_f2d dL_resistance_8 hg3 ?_
  refine grd_e hs (fun hg4 hs => ?_)
  refine x_dast ⟨by decide, by decide⟩ (Nat.le_of_ble_eq_true rfl) dL_resistance_9 rfl (lt_of hnx (Nat.le_of_ble_eq_true rfl)) ?_
  refine nam_s hs (fun s5 hs => ?_)
  refine w_goto dL_resistance_10 rfl ?_
  refine x_iconst dL_resistance_17 ?_
  cases hs
  exact x_ireturn dL_resistance_18 rfl rfl (Nat.le_of_ble_eq_true rfl) (Nat.le_of_ble_eq_true rfl) ⟨rfl, rfl⟩
set_option maxRecDepth 100000 in
theorem c_La_balance {C : Cx} {nx : Nat} (hnx : 102 ≤ nx) (hnK : KN ≤ nx) (x1 : Int) (s : Sg) : ∀ o, La_balance x1 s = some o → mmH C M_L_balance 11 1 6 nx nx [.ref 0, vi x1, .ref 101] (hp nx s) (QI nx o.2 o.1) (XF) := by
  intro o hs
  unfold La_balance at hs
  refine mmH_of rfl (Nat.le_of_ble_eq_true rfl) ?_
  show ww C M_L_balance 11 1 6 nx (QI nx o.2 o.1) (XF) nx 0 0 0 [(0, .ref 0), (1, vi x1), (2, .ref 101)] [] (hp nx s)
  refine w_aload_n 2 dL_balance_0 rfl rfl ?_
  refine x_iconst dL_balance_1 ?_
  refine w_aload_n 0 dL_balance_2 rfl rfl ?_
  refine w_iload_n 1 dL_balance_3 rfl rfl ?_
  refine x_Vc_TD M_X11_balance [vi x1] [vi 0, .ref 101] hs rfl dL_balance_4 (lkL_83 _ rfl) (lt_of hnx (Nat.le_of_ble_eq_true rfl)) rfl rfl (Nat.le_of_ble_eq_true rfl) (Nat.le_of_ble_eq_true rfl) (Nat.le_of_ble_eq_true rfl) (Nat.le_of_ble_eq_true rfl) (c_Hx_balance (Nat.le_trans (Nat.le_of_ble_eq_true rfl) hnx) hnK x1 s) rfl (fun _ => hn_L_balance_0) (fun h => absurd rfl h) (fun y1 s2 hy1 hs => ?_)
  refine grd_e hs (fun hg3 hs => ?_)
  refine x_dast ⟨by decide, by decide⟩ (Nat.le_of_ble_eq_true rfl) dL_balance_7 rfl (lt_of hnx (Nat.le_of_ble_eq_true rfl)) ?_
  refine nam_s hs (fun s4 hs => ?_)
  refine w_goto dL_balance_8 rfl ?_
  refine x_iconst dL_balance_14 ?_
  cases hs
  exact x_ireturn dL_balance_15 rfl rfl (Nat.le_of_ble_eq_true rfl) (Nat.le_of_ble_eq_true rfl) ⟨rfl, rfl⟩
set_option maxRecDepth 100000 in
theorem c_La_filled {C : Cx} {nx : Nat} (hnx : 102 ≤ nx) (hnK : KN ≤ nx) (x1 : Int) (s : Sg) : ∀ o, La_filled x1 s = some o → mmH C M_L_filled 11 1 6 nx nx [.ref 0, vi x1, .ref 100] (hp nx s) (QI nx o.2 o.1) (XF) := by
  intro o hs
  unfold La_filled at hs
  refine mmH_of rfl (Nat.le_of_ble_eq_true rfl) ?_
  show ww C M_L_filled 11 1 6 nx (QI nx o.2 o.1) (XF) nx 0 0 0 [(0, .ref 0), (1, vi x1), (2, .ref 100)] [] (hp nx s)
  refine w_aload_n 2 dL_filled_0 rfl rfl ?_
  refine x_iconst dL_filled_1 ?_
  refine w_aload_n 0 dL_filled_2 rfl rfl ?_
  refine w_iload_n 1 dL_filled_3 rfl rfl ?_
  refine x_Vc_T M_X11_filled [vi x1] [vi 0, .ref 100] hs rfl dL_filled_4 (lkL_87 _ rfl) (lt_of hnx (Nat.le_of_ble_eq_true rfl)) rfl rfl (Nat.le_of_ble_eq_true rfl) (Nat.le_of_ble_eq_true rfl) (Nat.le_of_ble_eq_true rfl) (Nat.le_of_ble_eq_true rfl) (c_Hx_filled (Nat.le_trans (Nat.le_of_ble_eq_true rfl) hnx) hnK x1 s) rfl (fun _ => hn_L_filled_0) (fun h => absurd rfl h) (fun y1 s2 hy1 hs => ?_)
  refine grd_e hs (fun hg3 hs => ?_)
  refine x_i2l dL_filled_7 hg3 ?_
  refine grd_e hs (fun hg4 hs => ?_)
  refine x_last ⟨by decide, by decide⟩ (Nat.le_of_ble_eq_true rfl) dL_filled_8 rfl (lt_of hnx (Nat.le_of_ble_eq_true rfl)) ?_
  refine nam_s hs (fun s5 hs => ?_)
  refine w_goto dL_filled_9 rfl ?_
  refine x_iconst dL_filled_15 ?_
  cases hs
  exact x_ireturn dL_filled_16 rfl rfl (Nat.le_of_ble_eq_true rfl) (Nat.le_of_ble_eq_true rfl) ⟨rfl, rfl⟩
set_option maxRecDepth 100000 in
theorem c_La_fillings {C : Cx} {nx : Nat} (hnx : 102 ≤ nx) (hnK : KN ≤ nx) (x1 : Int) (x2 : Int) (x3 : Int) (s : Sg) : ∀ o, La_fillings x1 x2 x3 s = some o → mmH C M_L_fillings 11 3 18 nx nx [.ref 0, vi x1, vi x2, vi x3, .ref 100] (hp nx s) (QI nx o.2 o.1) (XF) := by
  intro o hs
  unfold La_fillings at hs
  refine mmH_of rfl (Nat.le_of_ble_eq_true rfl) ?_
  show ww C M_L_fillings 11 3 18 nx (QI nx o.2 o.1) (XF) nx 0 0 0 [(0, .ref 0), (1, vi x1), (2, vi x2), (3, vi x3), (4, .ref 100)] [] (hp nx s)
  refine w_aload 4 dL_fillings_0 rfl ?_
  refine x_iconst dL_fillings_2 ?_
  refine w_aload_n 0 dL_fillings_3 rfl rfl ?_
  refine w_iload_n 1 dL_fillings_4 rfl rfl ?_
  refine w_iload_n 2 dL_fillings_5 rfl rfl ?_
  refine w_iload_n 3 dL_fillings_6 rfl rfl ?_
  refine x_Vc_T M_X11_fillings [vi x1, vi x2, vi x3] [vi 0, .ref 100] hs rfl dL_fillings_7 (lkL_90 _ rfl) (lt_of hnx (Nat.le_of_ble_eq_true rfl)) rfl rfl (Nat.le_of_ble_eq_true rfl) (Nat.le_of_ble_eq_true rfl) (Nat.le_of_ble_eq_true rfl) (Nat.le_of_ble_eq_true rfl) (c_Hx_fillings (Nat.le_trans (Nat.le_of_ble_eq_true rfl) hnx) hnK x1 x2 x3 s) rfl (fun _ => hn_L_fillings_0) (fun h => absurd rfl h) (fun y1 s2 hy1 hs => ?_)
  refine grd_e hs (fun hg3 hs => ?_)
  refine x_i2l dL_fillings_10 hg3 ?_
  refine grd_e hs (fun hg4 hs => ?_)
  refine x_last ⟨by decide, by decide⟩ (Nat.le_of_ble_eq_true rfl) dL_fillings_11 rfl (lt_of hnx (Nat.le_of_ble_eq_true rfl)) ?_
  refine nam_s hs (fun s5 hs => ?_)
  refine w_goto dL_fillings_12 rfl ?_
  refine x_iconst dL_fillings_19 ?_
  cases hs
  exact x_ireturn dL_fillings_20 rfl rfl (Nat.le_of_ble_eq_true rfl) (Nat.le_of_ble_eq_true rfl) ⟨rfl, rfl⟩
set_option maxRecDepth 100000 in
theorem c_La_idle {C : Cx} {nx : Nat} (hnx : 102 ≤ nx) (hnK : KN ≤ nx) (x1 : Int) (s : Sg) : ∀ o, La_idle x1 s = some o → mmH C M_L_idle 11 1 6 nx nx [.ref 0, vi x1, .ref 100] (hp nx s) (QI nx o.2 o.1) (XF) := by
  intro o hs
  unfold La_idle at hs
  refine mmH_of rfl (Nat.le_of_ble_eq_true rfl) ?_
  show ww C M_L_idle 11 1 6 nx (QI nx o.2 o.1) (XF) nx 0 0 0 [(0, .ref 0), (1, vi x1), (2, .ref 100)] [] (hp nx s)
  refine w_aload_n 2 dL_idle_0 rfl rfl ?_
  refine x_iconst dL_idle_1 ?_
  refine w_aload_n 0 dL_idle_2 rfl rfl ?_
  refine w_iload_n 1 dL_idle_3 rfl rfl ?_
  refine x_Vc_T M_X11_idle [vi x1] [vi 0, .ref 100] hs rfl dL_idle_4 (lkL_93 _ rfl) (lt_of hnx (Nat.le_of_ble_eq_true rfl)) rfl rfl (Nat.le_of_ble_eq_true rfl) (Nat.le_of_ble_eq_true rfl) (Nat.le_of_ble_eq_true rfl) (Nat.le_of_ble_eq_true rfl) (c_Hx_idle (Nat.le_trans (Nat.le_of_ble_eq_true rfl) hnx) hnK x1 s) rfl (fun _ => hn_L_idle_0) (fun h => absurd rfl h) (fun y1 s2 hy1 hs => ?_)
  refine grd_e hs (fun hg3 hs => ?_)
  refine x_i2l dL_idle_7 hg3 ?_
  refine grd_e hs (fun hg4 hs => ?_)
  refine x_last ⟨by decide, by decide⟩ (Nat.le_of_ble_eq_true rfl) dL_idle_8 rfl (lt_of hnx (Nat.le_of_ble_eq_true rfl)) ?_
  refine nam_s hs (fun s5 hs => ?_)
  refine w_goto dL_idle_9 rfl ?_
  refine x_iconst dL_idle_15 ?_
  cases hs
  exact x_ireturn dL_idle_16 rfl rfl (Nat.le_of_ble_eq_true rfl) (Nat.le_of_ble_eq_true rfl) ⟨rfl, rfl⟩
set_option maxRecDepth 100000 in
theorem c_La_move {C : Cx} {nx : Nat} (hnx : 102 ≤ nx) (hnK : KN ≤ nx) (x1 : Int) (s : Sg) : ∀ o, La_move x1 s = some o → mmH C M_L_move 11 1 6 nx nx [.ref 0, vi x1, .ref 100] (hp nx s) (QI nx o.2 o.1) (XF) := by
  intro o hs
  unfold La_move at hs
  refine mmH_of rfl (Nat.le_of_ble_eq_true rfl) ?_
  show ww C M_L_move 11 1 6 nx (QI nx o.2 o.1) (XF) nx 0 0 0 [(0, .ref 0), (1, vi x1), (2, .ref 100)] [] (hp nx s)
  refine w_aload_n 2 dL_move_0 rfl rfl ?_
  refine x_iconst dL_move_1 ?_
  refine w_aload_n 0 dL_move_2 rfl rfl ?_
  refine w_iload_n 1 dL_move_3 rfl rfl ?_
  refine x_Vc_T M_X11_move [vi x1] [vi 0, .ref 100] hs rfl dL_move_4 (lkL_96 _ rfl) (lt_of hnx (Nat.le_of_ble_eq_true rfl)) rfl rfl (Nat.le_of_ble_eq_true rfl) (Nat.le_of_ble_eq_true rfl) (Nat.le_of_ble_eq_true rfl) (Nat.le_of_ble_eq_true rfl) (c_Hx_move (Nat.le_trans (Nat.le_of_ble_eq_true rfl) hnx) hnK x1 s) rfl (fun h => absurd rfl h) (fun _ => hn_L_move_1) (fun y1 s2 hy1 hs => ?_)
  refine grd_e hs (fun hg3 hs => ?_)
  refine x_i2l dL_move_7 hg3 ?_
  refine grd_e hs (fun hg4 hs => ?_)
  refine x_last ⟨by decide, by decide⟩ (Nat.le_of_ble_eq_true rfl) dL_move_8 rfl (lt_of hnx (Nat.le_of_ble_eq_true rfl)) ?_
  refine nam_s hs (fun s5 hs => ?_)
  refine w_goto dL_move_9 rfl ?_
  refine x_iconst dL_move_15 ?_
  cases hs
  exact x_ireturn dL_move_16 rfl rfl (Nat.le_of_ble_eq_true rfl) (Nat.le_of_ble_eq_true rfl) ⟨rfl, rfl⟩
set_option maxRecDepth 100000 in
theorem c_La_put {C : Cx} {nx : Nat} (hnx : 102 ≤ nx) (hnK : KN ≤ nx) (x1 : Int) (x2 : Int) (s : Sg) : ∀ o, La_put x1 x2 s = some o → mmH C M_L_put 11 2 12 nx nx [.ref 0, vi x1, vi x2, .ref 100] (hp nx s) (QI nx o.2 o.1) (XF) := by
  intro o hs
  unfold La_put at hs
  refine mmH_of rfl (Nat.le_of_ble_eq_true rfl) ?_
  show ww C M_L_put 11 2 12 nx (QI nx o.2 o.1) (XF) nx 0 0 0 [(0, .ref 0), (1, vi x1), (2, vi x2), (3, .ref 100)] [] (hp nx s)
  refine w_aload_n 3 dL_put_0 rfl rfl ?_
  refine x_iconst dL_put_1 ?_
  refine w_aload_n 0 dL_put_2 rfl rfl ?_
  refine w_iload_n 1 dL_put_3 rfl rfl ?_
  refine w_iload_n 2 dL_put_4 rfl rfl ?_
  refine x_Vc_T M_X11_put [vi x1, vi x2] [vi 0, .ref 100] hs rfl dL_put_5 (lkL_99 _ rfl) (lt_of hnx (Nat.le_of_ble_eq_true rfl)) rfl rfl (Nat.le_of_ble_eq_true rfl) (Nat.le_of_ble_eq_true rfl) (Nat.le_of_ble_eq_true rfl) (Nat.le_of_ble_eq_true rfl) (c_Hx_put (Nat.le_trans (Nat.le_of_ble_eq_true rfl) hnx) hnK x1 x2 s) rfl (fun _ => hn_L_put_0) (fun _ => hn_L_put_1) (fun y1 s2 hy1 hs => ?_)
  refine grd_e hs (fun hg3 hs => ?_)
  refine x_i2l dL_put_8 hg3 ?_
  refine grd_e hs (fun hg4 hs => ?_)
  refine x_last ⟨by decide, by decide⟩ (Nat.le_of_ble_eq_true rfl) dL_put_9 rfl (lt_of hnx (Nat.le_of_ble_eq_true rfl)) ?_
  refine nam_s hs (fun s5 hs => ?_)
  refine w_goto dL_put_10 rfl ?_
  refine x_iconst dL_put_21 ?_
  cases hs
  exact x_ireturn dL_put_22 rfl rfl (Nat.le_of_ble_eq_true rfl) (Nat.le_of_ble_eq_true rfl) ⟨rfl, rfl⟩
set_option maxRecDepth 100000 in
theorem c_La_setTurn {C : Cx} {nx : Nat} (hnx : 102 ≤ nx) (hnK : KN ≤ nx) (x1 : Int) (s : Sg) : ∀ o, La_setTurn x1 s = some o → mmH C M_L_setTurn 11 1 6 nx nx [.ref 0, vi x1, .ref 100] (hp nx s) (QI nx o.2 o.1) (XF) := by
  intro o hs
  unfold La_setTurn at hs
  refine mmH_of rfl (Nat.le_of_ble_eq_true rfl) ?_
  show ww C M_L_setTurn 11 1 6 nx (QI nx o.2 o.1) (XF) nx 0 0 0 [(0, .ref 0), (1, vi x1), (2, .ref 100)] [] (hp nx s)
  refine w_aload_n 2 dL_setTurn_0 rfl rfl ?_
  refine x_iconst dL_setTurn_1 ?_
  refine w_aload_n 0 dL_setTurn_2 rfl rfl ?_
  refine w_iload_n 1 dL_setTurn_3 rfl rfl ?_
  refine x_Vc_T M_X11_setTurn [vi x1] [vi 0, .ref 100] hs rfl dL_setTurn_4 (lkL_102 _ rfl) (lt_of hnx (Nat.le_of_ble_eq_true rfl)) rfl rfl (Nat.le_of_ble_eq_true rfl) (Nat.le_of_ble_eq_true rfl) (Nat.le_of_ble_eq_true rfl) (Nat.le_of_ble_eq_true rfl) (c_Hx_setTurn (Nat.le_trans (Nat.le_of_ble_eq_true rfl) hnx) hnK x1 s) rfl (fun _ => hn_L_setTurn_0) (fun h => absurd rfl h) (fun y1 s2 hy1 hs => ?_)
  refine grd_e hs (fun hg3 hs => ?_)
  refine x_i2l dL_setTurn_7 hg3 ?_
  refine grd_e hs (fun hg4 hs => ?_)
  refine x_last ⟨by decide, by decide⟩ (Nat.le_of_ble_eq_true rfl) dL_setTurn_8 rfl (lt_of hnx (Nat.le_of_ble_eq_true rfl)) ?_
  refine nam_s hs (fun s5 hs => ?_)
  refine w_goto dL_setTurn_9 rfl ?_
  refine x_iconst dL_setTurn_15 ?_
  cases hs
  exact x_ireturn dL_setTurn_16 rfl rfl (Nat.le_of_ble_eq_true rfl) (Nat.le_of_ble_eq_true rfl) ⟨rfl, rfl⟩
set_option maxRecDepth 100000 in
theorem c_La_playForced {C : Cx} {nx : Nat} (hnx : 102 ≤ nx) (hnK : KN ≤ nx) (x1 : Int) (s : Sg) : ∀ o, La_playForced x1 s = some o → mmH C M_L_playForced 11 1 6 nx nx [.ref 0, vi x1, .ref 100] (hp nx s) (QI nx o.2 o.1) (XF) := by
  intro o hs
  unfold La_playForced at hs
  refine mmH_of rfl (Nat.le_of_ble_eq_true rfl) ?_
  show ww C M_L_playForced 11 1 6 nx (QI nx o.2 o.1) (XF) nx 0 0 0 [(0, .ref 0), (1, vi x1), (2, .ref 100)] [] (hp nx s)
  refine w_aload_n 2 dL_playForced_0 rfl rfl ?_
  refine x_iconst dL_playForced_1 ?_
  refine w_aload_n 0 dL_playForced_2 rfl rfl ?_
  refine w_iload_n 1 dL_playForced_3 rfl rfl ?_
  refine x_Vc_T M_X11_playForced [vi x1] [vi 0, .ref 100] hs rfl dL_playForced_4 (lkL_105 _ rfl) (lt_of hnx (Nat.le_of_ble_eq_true rfl)) rfl rfl (Nat.le_of_ble_eq_true rfl) (Nat.le_of_ble_eq_true rfl) (Nat.le_of_ble_eq_true rfl) (Nat.le_of_ble_eq_true rfl) (c_Hx_playForced (Nat.le_trans (Nat.le_of_ble_eq_true rfl) hnx) hnK x1 s) rfl (fun _ => hn_L_playForced_0) (fun h => absurd rfl h) (fun y1 s2 hy1 hs => ?_)
  refine grd_e hs (fun hg3 hs => ?_)
  refine x_i2l dL_playForced_7 hg3 ?_
  refine grd_e hs (fun hg4 hs => ?_)
  refine x_last ⟨by decide, by decide⟩ (Nat.le_of_ble_eq_true rfl) dL_playForced_8 rfl (lt_of hnx (Nat.le_of_ble_eq_true rfl)) ?_
  refine nam_s hs (fun s5 hs => ?_)
  refine w_goto dL_playForced_9 rfl ?_
  refine x_iconst dL_playForced_15 ?_
  cases hs
  exact x_ireturn dL_playForced_16 rfl rfl (Nat.le_of_ble_eq_true rfl) (Nat.le_of_ble_eq_true rfl) ⟨rfl, rfl⟩
set_option maxRecDepth 100000 in
theorem c_La_writeRow {C : Cx} {nx : Nat} (hnx : 102 ≤ nx) (hnK : KN ≤ nx) (x1 : Int) (s : Sg) : ∀ o, La_writeRow x1 s = some o → mmH C M_L_writeRow 10 1 6 nx nx [.ref 0, vi x1, .ref 100] (hp nx s) (QI nx o.2 o.1) (XF) := by
  intro o hs
  unfold La_writeRow at hs
  refine mmH_of rfl (Nat.le_of_ble_eq_true rfl) ?_
  show ww C M_L_writeRow 10 1 6 nx (QI nx o.2 o.1) (XF) nx 0 0 0 [(0, .ref 0), (1, vi x1), (2, .ref 100)] [] (hp nx s)
  refine w_aload_n 2 dL_writeRow_0 rfl rfl ?_
  refine x_iconst dL_writeRow_1 ?_
  refine w_aload_n 0 dL_writeRow_2 rfl rfl ?_
  refine w_iload_n 1 dL_writeRow_3 rfl rfl ?_
  refine x_Vc_T M_X11_writeRow [vi x1] [vi 0, .ref 100] hs rfl dL_writeRow_4 (lkL_108 _ rfl) (lt_of hnx (Nat.le_of_ble_eq_true rfl)) rfl rfl (Nat.le_of_ble_eq_true rfl) (Nat.le_of_ble_eq_true rfl) (Nat.le_of_ble_eq_true rfl) (Nat.le_of_ble_eq_true rfl) (c_Hx_writeRow (Nat.le_trans (Nat.le_of_ble_eq_true rfl) hnx) hnK x1 s) rfl (fun h => absurd rfl h) (fun _ => hn_L_writeRow_1) (fun y1 s2 hy1 hs => ?_)
  refine grd_e hs (fun hg3 hs => ?_)
  refine x_i2l dL_writeRow_7 hg3 ?_
  refine grd_e hs (fun hg4 hs => ?_)
  refine x_last ⟨by decide, by decide⟩ (Nat.le_of_ble_eq_true rfl) dL_writeRow_8 rfl (lt_of hnx (Nat.le_of_ble_eq_true rfl)) ?_
  refine nam_s hs (fun s5 hs => ?_)
  refine w_goto dL_writeRow_9 rfl ?_
  refine x_iconst dL_writeRow_15 ?_
  cases hs
  exact x_ireturn dL_writeRow_16 rfl rfl (Nat.le_of_ble_eq_true rfl) (Nat.le_of_ble_eq_true rfl) ⟨rfl, rfl⟩
set_option maxRecDepth 100000 in
theorem c_La_writeCell {C : Cx} {nx : Nat} (hnx : 102 ≤ nx) (hnK : KN ≤ nx) (x1 : Int) (s : Sg) : ∀ o, La_writeCell x1 s = some o → mmH C M_L_writeCell 11 1 6 nx nx [.ref 0, vi x1, .ref 100] (hp nx s) (QI nx o.2 o.1) (XF) := by
  intro o hs
  unfold La_writeCell at hs
  refine mmH_of rfl (Nat.le_of_ble_eq_true rfl) ?_
  show ww C M_L_writeCell 11 1 6 nx (QI nx o.2 o.1) (XF) nx 0 0 0 [(0, .ref 0), (1, vi x1), (2, .ref 100)] [] (hp nx s)
  refine w_aload_n 2 dL_writeCell_0 rfl rfl ?_
  refine x_iconst dL_writeCell_1 ?_
  refine w_aload_n 0 dL_writeCell_2 rfl rfl ?_
  refine w_iload_n 1 dL_writeCell_3 rfl rfl ?_
  refine x_Vc_T M_X11_writeCell [vi x1] [vi 0, .ref 100] hs rfl dL_writeCell_4 (lkL_111 _ rfl) (lt_of hnx (Nat.le_of_ble_eq_true rfl)) rfl rfl (Nat.le_of_ble_eq_true rfl) (Nat.le_of_ble_eq_true rfl) (Nat.le_of_ble_eq_true rfl) (Nat.le_of_ble_eq_true rfl) (c_Hx_writeCell (Nat.le_trans (Nat.le_of_ble_eq_true rfl) hnx) hnK x1 s) rfl (fun h => absurd rfl h) (fun _ => hn_L_writeCell_1) (fun y1 s2 hy1 hs => ?_)
  refine grd_e hs (fun hg3 hs => ?_)
  refine x_i2l dL_writeCell_7 hg3 ?_
  refine grd_e hs (fun hg4 hs => ?_)
  refine x_last ⟨by decide, by decide⟩ (Nat.le_of_ble_eq_true rfl) dL_writeCell_8 rfl (lt_of hnx (Nat.le_of_ble_eq_true rfl)) ?_
  refine nam_s hs (fun s5 hs => ?_)
  refine w_goto dL_writeCell_9 rfl ?_
  refine x_iconst dL_writeCell_15 ?_
  cases hs
  exact x_ireturn dL_writeCell_16 rfl rfl (Nat.le_of_ble_eq_true rfl) (Nat.le_of_ble_eq_true rfl) ⟨rfl, rfl⟩
set_option maxRecDepth 100000 in
theorem c_La_saveSnapshot {C : Cx} {nx : Nat} (hnx : 102 ≤ nx) (hnK : KN ≤ nx) (x1 : Int) (s : Sg) : ∀ o, La_saveSnapshot x1 s = some o → mmH C M_L_saveSnapshot 11 1 6 nx nx [.ref 0, vi x1, .ref 100] (hp nx s) (QI nx o.2 o.1) (XF) := by
  intro o hs
  unfold La_saveSnapshot at hs
  refine mmH_of rfl (Nat.le_of_ble_eq_true rfl) ?_
  show ww C M_L_saveSnapshot 11 1 6 nx (QI nx o.2 o.1) (XF) nx 0 0 0 [(0, .ref 0), (1, vi x1), (2, .ref 100)] [] (hp nx s)
  refine w_aload_n 2 dL_saveSnapshot_0 rfl rfl ?_
  refine x_iconst dL_saveSnapshot_1 ?_
  refine w_aload_n 0 dL_saveSnapshot_2 rfl rfl ?_
  refine w_iload_n 1 dL_saveSnapshot_3 rfl rfl ?_
  refine x_Vc_T M_X11_saveSnapshot [vi x1] [vi 0, .ref 100] hs rfl dL_saveSnapshot_4 (lkL_114 _ rfl) (lt_of hnx (Nat.le_of_ble_eq_true rfl)) rfl rfl (Nat.le_of_ble_eq_true rfl) (Nat.le_of_ble_eq_true rfl) (Nat.le_of_ble_eq_true rfl) (Nat.le_of_ble_eq_true rfl) (c_Hx_saveSnapshot (Nat.le_trans (Nat.le_of_ble_eq_true rfl) hnx) hnK x1 s) rfl (fun _ => hn_L_saveSnapshot_0) (fun h => absurd rfl h) (fun y1 s2 hy1 hs => ?_)
  refine grd_e hs (fun hg3 hs => ?_)
  refine x_i2l dL_saveSnapshot_7 hg3 ?_
  refine grd_e hs (fun hg4 hs => ?_)
  refine x_last ⟨by decide, by decide⟩ (Nat.le_of_ble_eq_true rfl) dL_saveSnapshot_8 rfl (lt_of hnx (Nat.le_of_ble_eq_true rfl)) ?_
  refine nam_s hs (fun s5 hs => ?_)
  refine w_goto dL_saveSnapshot_9 rfl ?_
  refine x_iconst dL_saveSnapshot_15 ?_
  cases hs
  exact x_ireturn dL_saveSnapshot_16 rfl rfl (Nat.le_of_ble_eq_true rfl) (Nat.le_of_ble_eq_true rfl) ⟨rfl, rfl⟩
set_option maxRecDepth 100000 in
theorem c_La_restoreSnapshot {C : Cx} {nx : Nat} (hnx : 102 ≤ nx) (hnK : KN ≤ nx) (x1 : Int) (s : Sg) : ∀ o, La_restoreSnapshot x1 s = some o → mmH C M_L_restoreSnapshot 11 1 6 nx nx [.ref 0, vi x1, .ref 100] (hp nx s) (QI nx o.2 o.1) (XF) := by
  intro o hs
  unfold La_restoreSnapshot at hs
  refine mmH_of rfl (Nat.le_of_ble_eq_true rfl) ?_
  show ww C M_L_restoreSnapshot 11 1 6 nx (QI nx o.2 o.1) (XF) nx 0 0 0 [(0, .ref 0), (1, vi x1), (2, .ref 100)] [] (hp nx s)
  refine w_aload_n 2 dL_restoreSnapshot_0 rfl rfl ?_
  refine x_iconst dL_restoreSnapshot_1 ?_
  refine w_aload_n 0 dL_restoreSnapshot_2 rfl rfl ?_
  refine w_iload_n 1 dL_restoreSnapshot_3 rfl rfl ?_
  refine x_Vc_T M_X11_restoreSnapshot [vi x1] [vi 0, .ref 100] hs rfl dL_restoreSnapshot_4 (lkL_117 _ rfl) (lt_of hnx (Nat.le_of_ble_eq_true rfl)) rfl rfl (Nat.le_of_ble_eq_true rfl) (Nat.le_of_ble_eq_true rfl) (Nat.le_of_ble_eq_true rfl) (Nat.le_of_ble_eq_true rfl) (c_Hx_restoreSnapshot (Nat.le_trans (Nat.le_of_ble_eq_true rfl) hnx) hnK x1 s) rfl (fun _ => hn_L_restoreSnapshot_0) (fun h => absurd rfl h) (fun y1 s2 hy1 hs => ?_)
  refine grd_e hs (fun hg3 hs => ?_)
  refine x_i2l dL_restoreSnapshot_7 hg3 ?_
  refine grd_e hs (fun hg4 hs => ?_)
  refine x_last ⟨by decide, by decide⟩ (Nat.le_of_ble_eq_true rfl) dL_restoreSnapshot_8 rfl (lt_of hnx (Nat.le_of_ble_eq_true rfl)) ?_
  refine nam_s hs (fun s5 hs => ?_)
  refine w_goto dL_restoreSnapshot_9 rfl ?_
  refine x_iconst dL_restoreSnapshot_15 ?_
  cases hs
  exact x_ireturn dL_restoreSnapshot_16 rfl rfl (Nat.le_of_ble_eq_true rfl) (Nat.le_of_ble_eq_true rfl) ⟨rfl, rfl⟩
set_option maxRecDepth 100000 in
set_option maxHeartbeats 4000000 in
theorem q_La_law_b2707 {C : Cx} {nx : Nat} (hnx : 102 ≤ nx) (hnK : KN ≤ nx) {Qr : Option Value → Hp → Prop} {Qx : String → Hp → Prop}  (x5 : Int) (hL : xL C ≤ 2048) (h5 : 0 ≤ x5 ∧ x5 < (xL C : Int)) (s : Sg) {o : ((Int × Sg) ⊕ (Sg))} (hs : La_law_b2707 (xL C) x5 s = some o) (hb : ∀ σ : Int × Sg, o = .inl σ → ww C M_L_law 17 601024 7293034 nx (Qr) (Qx) nx (3 * σ.1.toNat + 1000) (18 * σ.1.toNat + 100000) 28 [(0, .ref 1200), (1, .ref 0), (2, .ref 80), (3, .ref 100), (4, .ref 101), (5, vi σ.1)] [] (hp nx σ.2)) (he0 : ∀ ρ : Sg, o = .inr ρ → ww C M_L_law 17 601024 7293034 nx (Qr) (Qx) nx 8000 150000 2713 [] [] (hp nx ρ)) : ww C M_L_law 17 601024 7293034 nx (Qr) (Qx) nx (3 * x5.toNat + 1003) (18 * x5.toNat + 100018) 2707 [(0, .ref 1200), (1, .ref 0), (2, .ref 80), (3, .ref 100), (4, .ref 101), (5, vi x5)] [] (hp nx s) := by
  unfold La_law_b2707 at hs
  refine x_iinc (lv' := [(5, vi (x5 + 4)), (0, .ref 1200), (1, .ref 0), (2, .ref 80), (3, .ref 100), (4, .ref 101)]) 5 dL_law_2707 rfl (Nat.le_of_ble_eq_true rfl) rfl ?_
  refine w_goto dL_law_2710 rfl ?_
  refine w_lv (lv' := [(0, .ref 1200), (1, .ref 0), (2, .ref 80), (3, .ref 100), (4, .ref 101), (5, vi (x5 + 4))]) [1, 2, 3, 4, 5, 0] rfl ?_
  cases hs
  exact w_wid (by omega) (by omega) (hb _ rfl)
set_option maxRecDepth 100000 in
set_option maxHeartbeats 4000000 in
theorem q_La_law_b264 {C : Cx} {nx : Nat} (hnx : 102 ≤ nx) (hnK : KN ≤ nx) {Qr : Option Value → Hp → Prop} {Qx : String → Hp → Prop}  (x5 : Int) (hL : xL C ≤ 2048) (h5 : 0 ≤ x5 ∧ x5 < (xL C : Int)) (s : Sg) {o : ((Int × Sg) ⊕ (Sg))} (hs : La_law_b264 (xL C) x5 s = some o) (hb : ∀ σ : Int × Sg, o = .inl σ → ww C M_L_law 17 601024 7293034 nx (Qr) (Qx) nx (3 * σ.1.toNat + 1000) (18 * σ.1.toNat + 100000) 28 [(0, .ref 1200), (1, .ref 0), (2, .ref 80), (3, .ref 100), (4, .ref 101), (5, vi σ.1)] [] (hp nx σ.2)) (he0 : ∀ ρ : Sg, o = .inr ρ → ww C M_L_law 17 601024 7293034 nx (Qr) (Qx) nx 8000 150000 2713 [] [] (hp nx ρ)) : ww C M_L_law 17 601024 7293034 nx (Qr) (Qx) nx (3 * x5.toNat + 1000) (18 * x5.toNat + 100000) 264 [(0, .ref 1200), (1, .ref 0), (2, .ref 80), (3, .ref 100), (4, .ref 101), (5, vi x5)] [] (hp nx s) := by
  unfold La_law_b264 at hs
  refine w_aload_n 1 dL_law_264 rfl rfl ?_
  refine w_aload_n 0 dL_law_265 rfl rfl ?_
  refine w_iload 5 dL_law_266 rfl ?_
  refine x_iconst dL_law_268 ?_
  refine x_iadd dL_law_269 ?_
  refine grd_e hs (fun hg2 hs => ?_)
  refine x_iald hg2 (Nat.le_trans hL (Nat.le_of_ble_eq_true rfl)) dL_law_270 (Or.inr (List.mem_of_getElem? (i := 8) rfl)) ?_
  refine grd_e hs (fun hg3 hs => ?_)
  refine x_i2l dL_law_271 hg3 ?_
  refine x_bipush dL_law_272 (by decide) ?_
  refine x_lshl dL_law_274 ?_
  refine w_aload_n 0 dL_law_275 rfl rfl ?_
  refine w_iload 5 dL_law_276 rfl ?_
  refine x_iconst dL_law_278 ?_
  refine x_iadd dL_law_279 ?_
  refine grd_e hs (fun hg4 hs => ?_)
  refine x_iald hg4 (Nat.le_trans hL (Nat.le_of_ble_eq_true rfl)) dL_law_280 (Or.inr (List.mem_of_getElem? (i := 8) rfl)) ?_
  refine grd_e hs (fun hg5 hs => ?_)
  refine x_i2l dL_law_281 hg5 ?_
  refine x_ldc2 4294967295 dL_law_282 (csL_124 rfl) ?_
  refine x_land dL_law_285 ?_
  refine x_lor dL_law_286 ?_
  refine x_V_B M_X11_append [vl (lorI (lshlI (gi s 1200 (x5 + 1).toNat) 32) (landI (gi s 1200 (x5 + 2).toNat) 4294967295))] [] hs rfl dL_law_287 (lkL_126 _ rfl) (lt_of hnx (Nat.le_of_ble_eq_true rfl)) rfl rfl (Nat.le_of_ble_eq_true rfl) (by omega) (by omega) (Nat.le_of_ble_eq_true rfl) (c_Hx_append (Nat.le_trans (Nat.le_of_ble_eq_true rfl) hnx) (lorI (lshlI (gi s 1200 (x5 + 1).toNat) 32) (landI (gi s 1200 (x5 + 2).toNat) 4294967295)) s) (fun y6 s7 hy6 hs => ?_)
  refine w_aload_n 2 dL_law_290 rfl rfl ?_
  refine w_aload_n 0 dL_law_291 rfl rfl ?_
  refine w_iload 5 dL_law_292 rfl ?_
  refine x_iconst dL_law_294 ?_
  refine x_iadd dL_law_295 ?_
  refine grd_e hs (fun hg8 hs => ?_)
  refine x_iald hg8 (Nat.le_trans hL (Nat.le_of_ble_eq_true rfl)) dL_law_296 (Or.inr (List.mem_of_getElem? (i := 8) rfl)) ?_
  refine grd_e hs (fun hg9 hs => ?_)
  refine x_i2l dL_law_297 hg9 ?_
  refine x_bipush dL_law_298 (by decide) ?_
  refine x_lshl dL_law_300 ?_
  refine w_aload_n 0 dL_law_301 rfl rfl ?_
  refine w_iload 5 dL_law_302 rfl ?_
  refine x_iconst dL_law_304 ?_
  refine x_iadd dL_law_305 ?_
  refine grd_e hs (fun hg10 hs => ?_)
  refine x_iald hg10 (Nat.le_trans hL (Nat.le_of_ble_eq_true rfl)) dL_law_306 (Or.inr (List.mem_of_getElem? (i := 8) rfl)) ?_
  refine grd_e hs (fun hg11 hs => ?_)
  refine x_i2l dL_law_307 hg11 ?_
  refine x_ldc2 4294967295 dL_law_308 (csL_124 rfl) ?_
  refine x_land dL_law_311 ?_
  refine x_lor dL_law_312 ?_
  refine x_V_B M_X12_append [vl (lorI (lshlI (gi s7 1200 (x5 + 1).toNat) 32) (landI (gi s7 1200 (x5 + 2).toNat) 4294967295))] [vi y6] hs rfl dL_law_313 (lkL_130 _ rfl) (lt_of hnx (Nat.le_of_ble_eq_true rfl)) rfl rfl (Nat.le_of_ble_eq_true rfl) (by omega) (by omega) (Nat.le_of_ble_eq_true rfl) (c_Mo_append (Nat.le_trans (Nat.le_of_ble_eq_true rfl) hnx) (lorI (lshlI (gi s7 1200 (x5 + 1).toNat) 32) (landI (gi s7 1200 (x5 + 2).toNat) 4294967295)) s7) (fun y12 s13 hy12 hs => ?_)
  refine x_icmpeq hs dL_law_316 rfl (fun hs => ?_) (fun hs => ?_)
  · exact w_wid (by omega) (by omega) (q_La_law_b2707 hnx hnK x5 hL h5 s13 hs hb he0)
  · cases hs
set_option maxRecDepth 100000 in
set_option maxHeartbeats 4000000 in
theorem q_La_law_b321 {C : Cx} {nx : Nat} (hnx : 102 ≤ nx) (hnK : KN ≤ nx) {Qr : Option Value → Hp → Prop} {Qx : String → Hp → Prop}  (x5 : Int) (hL : xL C ≤ 2048) (h5 : 0 ≤ x5 ∧ x5 < (xL C : Int)) (s : Sg) {o : ((Int × Sg) ⊕ (Sg))} (hs : La_law_b321 (xL C) x5 s = some o) (hb : ∀ σ : Int × Sg, o = .inl σ → ww C M_L_law 17 601024 7293034 nx (Qr) (Qx) nx (3 * σ.1.toNat + 1000) (18 * σ.1.toNat + 100000) 28 [(0, .ref 1200), (1, .ref 0), (2, .ref 80), (3, .ref 100), (4, .ref 101), (5, vi σ.1)] [] (hp nx σ.2)) (he0 : ∀ ρ : Sg, o = .inr ρ → ww C M_L_law 17 601024 7293034 nx (Qr) (Qx) nx 8000 150000 2713 [] [] (hp nx ρ)) : ww C M_L_law 17 601024 7293034 nx (Qr) (Qx) nx (3 * x5.toNat + 1000) (18 * x5.toNat + 100000) 321 [(0, .ref 1200), (1, .ref 0), (2, .ref 80), (3, .ref 100), (4, .ref 101), (5, vi x5)] [] (hp nx s) := by
  unfold La_law_b321 at hs
  refine w_aload_n 1 dL_law_321 rfl rfl ?_
  refine x_V_B M_X11_load [] [] hs rfl dL_law_322 (lkL_131 _ rfl) (lt_of hnx (Nat.le_of_ble_eq_true rfl)) rfl rfl (Nat.le_of_ble_eq_true rfl) (by omega) (by omega) (Nat.le_of_ble_eq_true rfl) (c_Hx_load (Nat.le_trans (Nat.le_of_ble_eq_true rfl) hnx) hnK s) (fun y16 s17 hy16 hs => ?_)
  refine w_aload_n 2 dL_law_325 rfl rfl ?_
  refine x_V_B M_X12_load [] [vi y16] hs rfl dL_law_326 (lkL_135 _ rfl) (lt_of hnx (Nat.le_of_ble_eq_true rfl)) rfl rfl (Nat.le_of_ble_eq_true rfl) (by omega) (by omega) (Nat.le_of_ble_eq_true rfl) (c_Mo_load (Nat.le_trans (Nat.le_of_ble_eq_true rfl) hnx) s17) (fun y18 s19 hy18 hs => ?_)
  refine x_icmpeq hs dL_law_329 rfl (fun hs => ?_) (fun hs => ?_)
  · exact w_wid (by omega) (by omega) (q_La_law_b2707 hnx hnK x5 hL h5 s19 hs hb he0)
  · cases hs
set_option maxRecDepth 100000 in
set_option maxHeartbeats 4000000 in
theorem q_La_law_b334 {C : Cx} {nx : Nat} (hnx : 102 ≤ nx) (hnK : KN ≤ nx) {Qr : Option Value → Hp → Prop} {Qx : String → Hp → Prop}  (x5 : Int) (hL : xL C ≤ 2048) (h5 : 0 ≤ x5 ∧ x5 < (xL C : Int)) (s : Sg) {o : ((Int × Sg) ⊕ (Sg))} (hs : La_law_b334 (xL C) x5 s = some o) (hb : ∀ σ : Int × Sg, o = .inl σ → ww C M_L_law 17 601024 7293034 nx (Qr) (Qx) nx (3 * σ.1.toNat + 1000) (18 * σ.1.toNat + 100000) 28 [(0, .ref 1200), (1, .ref 0), (2, .ref 80), (3, .ref 100), (4, .ref 101), (5, vi σ.1)] [] (hp nx σ.2)) (he0 : ∀ ρ : Sg, o = .inr ρ → ww C M_L_law 17 601024 7293034 nx (Qr) (Qx) nx 8000 150000 2713 [] [] (hp nx ρ)) : ww C M_L_law 17 601024 7293034 nx (Qr) (Qx) nx (3 * x5.toNat + 1000) (18 * x5.toNat + 100000) 334 [(0, .ref 1200), (1, .ref 0), (2, .ref 80), (3, .ref 100), (4, .ref 101), (5, vi x5)] [] (hp nx s) := by
  unfold La_law_b334 at hs
  refine w_aload_n 1 dL_law_334 rfl rfl ?_
  refine x_V_I M_X11_loadError [] [] hs rfl dL_law_335 (lkL_136 _ rfl) (lt_of hnx (Nat.le_of_ble_eq_true rfl)) rfl rfl (Nat.le_of_ble_eq_true rfl) (by omega) (by omega) (Nat.le_of_ble_eq_true rfl) (c_Hx_loadError (Nat.le_trans (Nat.le_of_ble_eq_true rfl) hnx) s) (fun y22 hy22 hs => ?_)
  refine w_aload_n 2 dL_law_338 rfl rfl ?_
  refine x_V_B M_X12_loadError [] [vi y22] hs rfl dL_law_339 (lkL_139 _ rfl) (lt_of hnx (Nat.le_of_ble_eq_true rfl)) rfl rfl (Nat.le_of_ble_eq_true rfl) (by omega) (by omega) (Nat.le_of_ble_eq_true rfl) (c_Mo_loadError (Nat.le_trans (Nat.le_of_ble_eq_true rfl) hnx) s) (fun y23 s24 hy23 hs => ?_)
  refine x_icmpeq hs dL_law_342 rfl (fun hs => ?_) (fun hs => ?_)
  · exact w_wid (by omega) (by omega) (q_La_law_b2707 hnx hnK x5 hL h5 s24 hs hb he0)
  · cases hs
set_option maxRecDepth 100000 in
set_option maxHeartbeats 4000000 in
theorem q_La_law_b347 {C : Cx} {nx : Nat} (hnx : 102 ≤ nx) (hnK : KN ≤ nx) {Qr : Option Value → Hp → Prop} {Qx : String → Hp → Prop}  (x5 : Int) (hL : xL C ≤ 2048) (h5 : 0 ≤ x5 ∧ x5 < (xL C : Int)) (s : Sg) {o : ((Int × Sg) ⊕ (Sg))} (hs : La_law_b347 (xL C) x5 s = some o) (hb : ∀ σ : Int × Sg, o = .inl σ → ww C M_L_law 17 601024 7293034 nx (Qr) (Qx) nx (3 * σ.1.toNat + 1000) (18 * σ.1.toNat + 100000) 28 [(0, .ref 1200), (1, .ref 0), (2, .ref 80), (3, .ref 100), (4, .ref 101), (5, vi σ.1)] [] (hp nx σ.2)) (he0 : ∀ ρ : Sg, o = .inr ρ → ww C M_L_law 17 601024 7293034 nx (Qr) (Qx) nx 8000 150000 2713 [] [] (hp nx ρ)) : ww C M_L_law 17 601024 7293034 nx (Qr) (Qx) nx (3 * x5.toNat + 1000) (18 * x5.toNat + 100000) 347 [(0, .ref 1200), (1, .ref 0), (2, .ref 80), (3, .ref 100), (4, .ref 101), (5, vi x5)] [] (hp nx s) := by
  unfold La_law_b347 at hs
  refine w_aload_n 1 dL_law_347 rfl rfl ?_
  refine x_V_I M_X11_loadStatement [] [] hs rfl dL_law_348 (lkL_140 _ rfl) (lt_of hnx (Nat.le_of_ble_eq_true rfl)) rfl rfl (Nat.le_of_ble_eq_true rfl) (by omega) (by omega) (Nat.le_of_ble_eq_true rfl) (c_Hx_loadStatement (Nat.le_trans (Nat.le_of_ble_eq_true rfl) hnx) s) (fun y27 hy27 hs => ?_)
  refine w_aload_n 2 dL_law_351 rfl rfl ?_
  refine x_V_B M_X12_loadStatement [] [vi y27] hs rfl dL_law_352 (lkL_143 _ rfl) (lt_of hnx (Nat.le_of_ble_eq_true rfl)) rfl rfl (Nat.le_of_ble_eq_true rfl) (by omega) (by omega) (Nat.le_of_ble_eq_true rfl) (c_Mo_loadStatement (Nat.le_trans (Nat.le_of_ble_eq_true rfl) hnx) s) (fun y28 s29 hy28 hs => ?_)
  refine x_icmpeq hs dL_law_355 rfl (fun hs => ?_) (fun hs => ?_)
  · exact w_wid (by omega) (by omega) (q_La_law_b2707 hnx hnK x5 hL h5 s29 hs hb he0)
  · cases hs
set_option maxRecDepth 100000 in
set_option maxHeartbeats 4000000 in
theorem q_La_law_b413 {C : Cx} {nx : Nat} (hnx : 102 ≤ nx) (hnK : KN ≤ nx) {Qr : Option Value → Hp → Prop} {Qx : String → Hp → Prop}  (x5 : Int) (hL : xL C ≤ 2048) (h5 : 0 ≤ x5 ∧ x5 < (xL C : Int)) (s : Sg) {o : ((Int × Sg) ⊕ (Sg))} (hs : La_law_b413 (xL C) x5 s = some o) (hb : ∀ σ : Int × Sg, o = .inl σ → ww C M_L_law 17 601024 7293034 nx (Qr) (Qx) nx (3 * σ.1.toNat + 1000) (18 * σ.1.toNat + 100000) 28 [(0, .ref 1200), (1, .ref 0), (2, .ref 80), (3, .ref 100), (4, .ref 101), (5, vi σ.1)] [] (hp nx σ.2)) (he0 : ∀ ρ : Sg, o = .inr ρ → ww C M_L_law 17 601024 7293034 nx (Qr) (Qx) nx 8000 150000 2713 [] [] (hp nx ρ)) : ww C M_L_law 17 601024 7293034 nx (Qr) (Qx) nx (3 * x5.toNat + 1003) (18 * x5.toNat + 100018) 413 [(0, .ref 1200), (1, .ref 0), (2, .ref 80), (3, .ref 100), (4, .ref 101), (5, vi x5)] [] (hp nx s) := by
  unfold La_law_b413 at hs
  refine w_goto dL_law_413 rfl ?_
  exact w_wid (by omega) (by omega) (q_La_law_b2707 hnx hnK x5 hL h5 s hs hb he0)
set_option maxRecDepth 100000 in
set_option maxHeartbeats 4000000 in
theorem q_La_law_b360 {C : Cx} {nx : Nat} (hnx : 102 ≤ nx) (hnK : KN ≤ nx) {Qr : Option Value → Hp → Prop} {Qx : String → Hp → Prop}  (x5 : Int) (hL : xL C ≤ 2048) (h5 : 0 ≤ x5 ∧ x5 < (xL C : Int)) (s : Sg) {o : ((Int × Sg) ⊕ (Sg))} (hs : La_law_b360 (xL C) x5 s = some o) (hb : ∀ σ : Int × Sg, o = .inl σ → ww C M_L_law 17 601024 7293034 nx (Qr) (Qx) nx (3 * σ.1.toNat + 1000) (18 * σ.1.toNat + 100000) 28 [(0, .ref 1200), (1, .ref 0), (2, .ref 80), (3, .ref 100), (4, .ref 101), (5, vi σ.1)] [] (hp nx σ.2)) (he0 : ∀ ρ : Sg, o = .inr ρ → ww C M_L_law 17 601024 7293034 nx (Qr) (Qx) nx 8000 150000 2713 [] [] (hp nx ρ)) : ww C M_L_law 17 601024 7293034 nx (Qr) (Qx) nx (3 * x5.toNat + 1000) (18 * x5.toNat + 100000) 360 [(0, .ref 1200), (1, .ref 0), (2, .ref 80), (3, .ref 100), (4, .ref 101), (5, vi x5)] [] (hp nx s) := by
  unfold La_law_b360 at hs
  refine w_aload_n 1 dL_law_360 rfl rfl ?_
  refine w_aload_n 0 dL_law_361 rfl rfl ?_
  refine w_iload 5 dL_law_362 rfl ?_
  refine x_iconst dL_law_364 ?_
  refine x_iadd dL_law_365 ?_
  refine grd_e hs (fun hg32 hs => ?_)
  refine x_iald hg32 (Nat.le_trans hL (Nat.le_of_ble_eq_true rfl)) dL_law_366 (Or.inr (List.mem_of_getElem? (i := 8) rfl)) ?_
  refine w_aload_n 3 dL_law_367 rfl rfl ?_
  refine x_SW_B M_L_size [.ref 0, vi (gi s 1200 (x5 + 1).toNat), .ref 100] [] (k2 := (3 * x5.toNat + 1003)) (n2 := (18 * x5.toNat + 100018)) hs rfl dL_law_368 (lkL_144 _ rfl) (Nat.le_of_ble_eq_true rfl) (by omega) (by omega) (by omega) (by omega) (Nat.le_of_ble_eq_true rfl) (c_La_size hnx hnK (gi s 1200 (x5 + 1).toNat) s) (fun y33 s34 hy33 hs => ?_)
  refine w_istore (lv' := [(6, vi y33), (0, .ref 1200), (1, .ref 0), (2, .ref 80), (3, .ref 100), (4, .ref 101), (5, vi x5)]) dL_law_371 (Nat.le_of_ble_eq_true rfl) rfl ?_
  refine w_aload_n 3 dL_law_373 rfl rfl ?_
  refine w_aload_n 1 dL_law_374 rfl rfl ?_
  refine w_iload 6 dL_law_375 rfl ?_
  refine x_iconst dL_law_377 ?_
  refine x_iadd dL_law_378 ?_
  refine grd_e hs (fun hg35 hs => ?_)
  refine x_iald hg35 (Nat.le_trans hL (Nat.le_of_ble_eq_true rfl)) dL_law_379 (Or.inr (List.mem_of_getElem? (i := 8) rfl)) ?_
  refine x_V_B M_X12_size [vi (gi s34 1200 (x5 + 1).toNat)] [] hs rfl dL_law_380 (lkL_149 _ rfl) (lt_of hnx (Nat.le_of_ble_eq_true rfl)) rfl rfl (Nat.le_of_ble_eq_true rfl) (by omega) (by omega) (Nat.le_of_ble_eq_true rfl) (c_Mo_size (Nat.le_trans (Nat.le_of_ble_eq_true rfl) hnx) (gi s34 1200 (x5 + 1).toNat) s34) (fun y36 s37 hy36 hs => ?_)
  refine w_istore (lv' := [(7, vi y36), (6, vi y33), (0, .ref 1200), (1, .ref 0), (2, .ref 80), (3, .ref 100), (4, .ref 101), (5, vi x5)]) dL_law_383 (Nat.le_of_ble_eq_true rfl) rfl ?_
  refine w_aload_n 4 dL_law_385 rfl rfl ?_
  refine x_V_I M_X12_thrown [] [] hs rfl dL_law_386 (lkL_150 _ rfl) (lt_of hnx (Nat.le_of_ble_eq_true rfl)) rfl rfl (Nat.le_of_ble_eq_true rfl) (by omega) (by omega) (Nat.le_of_ble_eq_true rfl) (c_Mo_thrown (Nat.le_trans (Nat.le_of_ble_eq_true rfl) hnx) s37) (fun y38 hy38 hs => ?_)
  refine w_iload 1 dL_law_389 rfl ?_
  refine x_icmpeq hs dL_law_391 rfl (fun hs => ?_) (fun hs => ?_)
  · refine w_iload 1 dL_law_396 rfl ?_
    refine x_ifne hs dL_law_398 rfl (fun hs => ?_) (fun hs => ?_)
    · refine w_lv (lv' := [(0, .ref 1200), (1, .ref 0), (2, .ref 80), (3, .ref 100), (4, .ref 101), (5, vi x5)]) [2, 3, 4, 5, 6, 7] rfl ?_
      exact w_wid (by omega) (by omega) (q_La_law_b413 hnx hnK x5 hL h5 s37 hs hb he0)
    · refine w_aload_n 5 dL_law_401 rfl rfl ?_
      refine x_iconst dL_law_402 ?_
      refine grd_e hs (fun hg39 hs => ?_)
      refine x_lald ⟨by decide, by decide⟩ (Nat.le_of_ble_eq_true rfl) dL_law_403 rfl (lt_of hnx (Nat.le_of_ble_eq_true rfl)) ?_
      refine w_iload 0 dL_law_404 rfl ?_
      refine grd_e hs (fun hg40 hs => ?_)
      refine x_i2l dL_law_406 hg40 ?_
      refine grd_e hs (fun hg41 hs => ?_)
      refine x_lcmp dL_law_407 hg41.1 hg41.2 ?_
      refine x_ifeq hs dL_law_408 rfl (fun hs => ?_) (fun hs => ?_)
      · refine w_lv (lv' := [(0, .ref 1200), (1, .ref 0), (2, .ref 80), (3, .ref 100), (4, .ref 101), (5, vi x5)]) [2, 3, 4, 5, 6, 7] rfl ?_
        exact w_wid (by omega) (by omega) (q_La_law_b413 hnx hnK x5 hL h5 s37 hs hb he0)
      · cases hs
  · cases hs
set_option maxRecDepth 100000 in
set_option maxHeartbeats 4000000 in
theorem q_La_law_b469 {C : Cx} {nx : Nat} (hnx : 102 ≤ nx) (hnK : KN ≤ nx) {Qr : Option Value → Hp → Prop} {Qx : String → Hp → Prop}  (x5 : Int) (hL : xL C ≤ 2048) (h5 : 0 ≤ x5 ∧ x5 < (xL C : Int)) (s : Sg) {o : ((Int × Sg) ⊕ (Sg))} (hs : La_law_b469 (xL C) x5 s = some o) (hb : ∀ σ : Int × Sg, o = .inl σ → ww C M_L_law 17 601024 7293034 nx (Qr) (Qx) nx (3 * σ.1.toNat + 1000) (18 * σ.1.toNat + 100000) 28 [(0, .ref 1200), (1, .ref 0), (2, .ref 80), (3, .ref 100), (4, .ref 101), (5, vi σ.1)] [] (hp nx σ.2)) (he0 : ∀ ρ : Sg, o = .inr ρ → ww C M_L_law 17 601024 7293034 nx (Qr) (Qx) nx 8000 150000 2713 [] [] (hp nx ρ)) : ww C M_L_law 17 601024 7293034 nx (Qr) (Qx) nx (3 * x5.toNat + 1003) (18 * x5.toNat + 100018) 469 [(0, .ref 1200), (1, .ref 0), (2, .ref 80), (3, .ref 100), (4, .ref 101), (5, vi x5)] [] (hp nx s) := by
  unfold La_law_b469 at hs
  refine w_goto dL_law_469 rfl ?_
  exact w_wid (by omega) (by omega) (q_La_law_b2707 hnx hnK x5 hL h5 s hs hb he0)
set_option maxRecDepth 100000 in
set_option maxHeartbeats 4000000 in
theorem q_La_law_b416 {C : Cx} {nx : Nat} (hnx : 102 ≤ nx) (hnK : KN ≤ nx) {Qr : Option Value → Hp → Prop} {Qx : String → Hp → Prop}  (x5 : Int) (hL : xL C ≤ 2048) (h5 : 0 ≤ x5 ∧ x5 < (xL C : Int)) (s : Sg) {o : ((Int × Sg) ⊕ (Sg))} (hs : La_law_b416 (xL C) x5 s = some o) (hb : ∀ σ : Int × Sg, o = .inl σ → ww C M_L_law 17 601024 7293034 nx (Qr) (Qx) nx (3 * σ.1.toNat + 1000) (18 * σ.1.toNat + 100000) 28 [(0, .ref 1200), (1, .ref 0), (2, .ref 80), (3, .ref 100), (4, .ref 101), (5, vi σ.1)] [] (hp nx σ.2)) (he0 : ∀ ρ : Sg, o = .inr ρ → ww C M_L_law 17 601024 7293034 nx (Qr) (Qx) nx 8000 150000 2713 [] [] (hp nx ρ)) : ww C M_L_law 17 601024 7293034 nx (Qr) (Qx) nx (3 * x5.toNat + 1000) (18 * x5.toNat + 100000) 416 [(0, .ref 1200), (1, .ref 0), (2, .ref 80), (3, .ref 100), (4, .ref 101), (5, vi x5)] [] (hp nx s) := by
  unfold La_law_b416 at hs
  refine w_aload_n 1 dL_law_416 rfl rfl ?_
  refine w_aload_n 0 dL_law_417 rfl rfl ?_
  refine w_iload 5 dL_law_418 rfl ?_
  refine x_iconst dL_law_420 ?_
  refine x_iadd dL_law_421 ?_
  refine grd_e hs (fun hg44 hs => ?_)
  refine x_iald hg44 (Nat.le_trans hL (Nat.le_of_ble_eq_true rfl)) dL_law_422 (Or.inr (List.mem_of_getElem? (i := 8) rfl)) ?_
  refine w_aload_n 3 dL_law_423 rfl rfl ?_
  refine x_SW_B M_L_cell [.ref 0, vi (gi s 1200 (x5 + 1).toNat), .ref 100] [] (k2 := (3 * x5.toNat + 1003)) (n2 := (18 * x5.toNat + 100018)) hs rfl dL_law_424 (lkL_153 _ rfl) (Nat.le_of_ble_eq_true rfl) (by omega) (by omega) (by omega) (by omega) (Nat.le_of_ble_eq_true rfl) (c_La_cell hnx hnK (gi s 1200 (x5 + 1).toNat) s) (fun y45 s46 hy45 hs => ?_)
  refine w_istore (lv' := [(6, vi y45), (0, .ref 1200), (1, .ref 0), (2, .ref 80), (3, .ref 100), (4, .ref 101), (5, vi x5)]) dL_law_427 (Nat.le_of_ble_eq_true rfl) rfl ?_
  refine w_aload_n 3 dL_law_429 rfl rfl ?_
  refine w_aload_n 1 dL_law_430 rfl rfl ?_
  refine w_iload 6 dL_law_431 rfl ?_
  refine x_iconst dL_law_433 ?_
  refine x_iadd dL_law_434 ?_
  refine grd_e hs (fun hg47 hs => ?_)
  refine x_iald hg47 (Nat.le_trans hL (Nat.le_of_ble_eq_true rfl)) dL_law_435 (Or.inr (List.mem_of_getElem? (i := 8) rfl)) ?_
  refine x_V_B M_X12_cell [vi (gi s46 1200 (x5 + 1).toNat)] [] hs rfl dL_law_436 (lkL_155 _ rfl) (lt_of hnx (Nat.le_of_ble_eq_true rfl)) rfl rfl (Nat.le_of_ble_eq_true rfl) (by omega) (by omega) (Nat.le_of_ble_eq_true rfl) (c_Mo_cell (Nat.le_trans (Nat.le_of_ble_eq_true rfl) hnx) (gi s46 1200 (x5 + 1).toNat) s46) (fun y48 s49 hy48 hs => ?_)
  refine w_istore (lv' := [(7, vi y48), (6, vi y45), (0, .ref 1200), (1, .ref 0), (2, .ref 80), (3, .ref 100), (4, .ref 101), (5, vi x5)]) dL_law_439 (Nat.le_of_ble_eq_true rfl) rfl ?_
  refine w_aload_n 4 dL_law_441 rfl rfl ?_
  refine x_V_I M_X12_thrown [] [] hs rfl dL_law_442 (lkL_150 _ rfl) (lt_of hnx (Nat.le_of_ble_eq_true rfl)) rfl rfl (Nat.le_of_ble_eq_true rfl) (by omega) (by omega) (Nat.le_of_ble_eq_true rfl) (c_Mo_thrown (Nat.le_trans (Nat.le_of_ble_eq_true rfl) hnx) s49) (fun y50 hy50 hs => ?_)
  refine w_iload 1 dL_law_445 rfl ?_
  refine x_icmpeq hs dL_law_447 rfl (fun hs => ?_) (fun hs => ?_)
  · refine w_iload 1 dL_law_452 rfl ?_
    refine x_ifne hs dL_law_454 rfl (fun hs => ?_) (fun hs => ?_)
    · refine w_lv (lv' := [(0, .ref 1200), (1, .ref 0), (2, .ref 80), (3, .ref 100), (4, .ref 101), (5, vi x5)]) [2, 3, 4, 5, 6, 7] rfl ?_
      exact w_wid (by omega) (by omega) (q_La_law_b469 hnx hnK x5 hL h5 s49 hs hb he0)
    · refine w_aload_n 5 dL_law_457 rfl rfl ?_
      refine x_iconst dL_law_458 ?_
      refine grd_e hs (fun hg51 hs => ?_)
      refine x_lald ⟨by decide, by decide⟩ (Nat.le_of_ble_eq_true rfl) dL_law_459 rfl (lt_of hnx (Nat.le_of_ble_eq_true rfl)) ?_
      refine w_iload 0 dL_law_460 rfl ?_
      refine grd_e hs (fun hg52 hs => ?_)
      refine x_i2l dL_law_462 hg52 ?_
      refine grd_e hs (fun hg53 hs => ?_)
      refine x_lcmp dL_law_463 hg53.1 hg53.2 ?_
      refine x_ifeq hs dL_law_464 rfl (fun hs => ?_) (fun hs => ?_)
      · refine w_lv (lv' := [(0, .ref 1200), (1, .ref 0), (2, .ref 80), (3, .ref 100), (4, .ref 101), (5, vi x5)]) [2, 3, 4, 5, 6, 7] rfl ?_
        exact w_wid (by omega) (by omega) (q_La_law_b469 hnx hnK x5 hL h5 s49 hs hb he0)
      · cases hs
  · cases hs
set_option maxRecDepth 100000 in
set_option maxHeartbeats 4000000 in
theorem q_La_law_b537 {C : Cx} {nx : Nat} (hnx : 102 ≤ nx) (hnK : KN ≤ nx) {Qr : Option Value → Hp → Prop} {Qx : String → Hp → Prop}  (x5 : Int) (hL : xL C ≤ 2048) (h5 : 0 ≤ x5 ∧ x5 < (xL C : Int)) (s : Sg) {o : ((Int × Sg) ⊕ (Sg))} (hs : La_law_b537 (xL C) x5 s = some o) (hb : ∀ σ : Int × Sg, o = .inl σ → ww C M_L_law 17 601024 7293034 nx (Qr) (Qx) nx (3 * σ.1.toNat + 1000) (18 * σ.1.toNat + 100000) 28 [(0, .ref 1200), (1, .ref 0), (2, .ref 80), (3, .ref 100), (4, .ref 101), (5, vi σ.1)] [] (hp nx σ.2)) (he0 : ∀ ρ : Sg, o = .inr ρ → ww C M_L_law 17 601024 7293034 nx (Qr) (Qx) nx 8000 150000 2713 [] [] (hp nx ρ)) : ww C M_L_law 17 601024 7293034 nx (Qr) (Qx) nx (3 * x5.toNat + 1003) (18 * x5.toNat + 100018) 537 [(0, .ref 1200), (1, .ref 0), (2, .ref 80), (3, .ref 100), (4, .ref 101), (5, vi x5)] [] (hp nx s) := by
  unfold La_law_b537 at hs
  refine w_goto dL_law_537 rfl ?_
  exact w_wid (by omega) (by omega) (q_La_law_b2707 hnx hnK x5 hL h5 s hs hb he0)
set_option maxRecDepth 100000 in
set_option maxHeartbeats 4000000 in
theorem q_La_law_b472 {C : Cx} {nx : Nat} (hnx : 102 ≤ nx) (hnK : KN ≤ nx) {Qr : Option Value → Hp → Prop} {Qx : String → Hp → Prop}  (x5 : Int) (hL : xL C ≤ 2048) (h5 : 0 ≤ x5 ∧ x5 < (xL C : Int)) (s : Sg) {o : ((Int × Sg) ⊕ (Sg))} (hs : La_law_b472 (xL C) x5 s = some o) (hb : ∀ σ : Int × Sg, o = .inl σ → ww C M_L_law 17 601024 7293034 nx (Qr) (Qx) nx (3 * σ.1.toNat + 1000) (18 * σ.1.toNat + 100000) 28 [(0, .ref 1200), (1, .ref 0), (2, .ref 80), (3, .ref 100), (4, .ref 101), (5, vi σ.1)] [] (hp nx σ.2)) (he0 : ∀ ρ : Sg, o = .inr ρ → ww C M_L_law 17 601024 7293034 nx (Qr) (Qx) nx 8000 150000 2713 [] [] (hp nx ρ)) : ww C M_L_law 17 601024 7293034 nx (Qr) (Qx) nx (3 * x5.toNat + 1000) (18 * x5.toNat + 100000) 472 [(0, .ref 1200), (1, .ref 0), (2, .ref 80), (3, .ref 100), (4, .ref 101), (5, vi x5)] [] (hp nx s) := by
  unfold La_law_b472 at hs
  refine w_aload_n 1 dL_law_472 rfl rfl ?_
  refine w_aload_n 0 dL_law_473 rfl rfl ?_
  refine w_iload 5 dL_law_474 rfl ?_
  refine x_iconst dL_law_476 ?_
  refine x_iadd dL_law_477 ?_
  refine grd_e hs (fun hg56 hs => ?_)
  refine x_iald hg56 (Nat.le_trans hL (Nat.le_of_ble_eq_true rfl)) dL_law_478 (Or.inr (List.mem_of_getElem? (i := 8) rfl)) ?_
  refine w_aload_n 0 dL_law_479 rfl rfl ?_
  refine w_iload 5 dL_law_480 rfl ?_
  refine x_iconst dL_law_482 ?_
  refine x_iadd dL_law_483 ?_
  refine grd_e hs (fun hg57 hs => ?_)
  refine x_iald hg57 (Nat.le_trans hL (Nat.le_of_ble_eq_true rfl)) dL_law_484 (Or.inr (List.mem_of_getElem? (i := 8) rfl)) ?_
  refine w_aload_n 3 dL_law_485 rfl rfl ?_
  refine x_SW_B M_L_neighbour [.ref 0, vi (gi s 1200 (x5 + 1).toNat), vi (gi s 1200 (x5 + 2).toNat), .ref 100] [] (k2 := (3 * x5.toNat + 1003)) (n2 := (18 * x5.toNat + 100018)) hs rfl dL_law_486 (lkL_156 _ rfl) (Nat.le_of_ble_eq_true rfl) (by omega) (by omega) (by omega) (by omega) (Nat.le_of_ble_eq_true rfl) (c_La_neighbour hnx hnK (gi s 1200 (x5 + 1).toNat) (gi s 1200 (x5 + 2).toNat) s) (fun y58 s59 hy58 hs => ?_)
  refine w_istore (lv' := [(6, vi y58), (0, .ref 1200), (1, .ref 0), (2, .ref 80), (3, .ref 100), (4, .ref 101), (5, vi x5)]) dL_law_489 (Nat.le_of_ble_eq_true rfl) rfl ?_
  refine w_aload_n 3 dL_law_491 rfl rfl ?_
  refine w_aload_n 1 dL_law_492 rfl rfl ?_
  refine w_iload 6 dL_law_493 rfl ?_
  refine x_iconst dL_law_495 ?_
  refine x_iadd dL_law_496 ?_
  refine grd_e hs (fun hg60 hs => ?_)
  refine x_iald hg60 (Nat.le_trans hL (Nat.le_of_ble_eq_true rfl)) dL_law_497 (Or.inr (List.mem_of_getElem? (i := 8) rfl)) ?_
  refine w_aload_n 1 dL_law_498 rfl rfl ?_
  refine w_iload 6 dL_law_499 rfl ?_
  refine x_iconst dL_law_501 ?_
  refine x_iadd dL_law_502 ?_
  refine grd_e hs (fun hg61 hs => ?_)
  refine x_iald hg61 (Nat.le_trans hL (Nat.le_of_ble_eq_true rfl)) dL_law_503 (Or.inr (List.mem_of_getElem? (i := 8) rfl)) ?_
  refine x_V_B M_X12_neighbour [vi (gi s59 1200 (x5 + 1).toNat), vi (gi s59 1200 (x5 + 2).toNat)] [] hs rfl dL_law_504 (lkL_159 _ rfl) (lt_of hnx (Nat.le_of_ble_eq_true rfl)) rfl rfl (Nat.le_of_ble_eq_true rfl) (by omega) (by omega) (Nat.le_of_ble_eq_true rfl) (c_Mo_neighbour (Nat.le_trans (Nat.le_of_ble_eq_true rfl) hnx) (gi s59 1200 (x5 + 1).toNat) (gi s59 1200 (x5 + 2).toNat) s59) (fun y62 s63 hy62 hs => ?_)
  refine w_istore (lv' := [(7, vi y62), (6, vi y58), (0, .ref 1200), (1, .ref 0), (2, .ref 80), (3, .ref 100), (4, .ref 101), (5, vi x5)]) dL_law_507 (Nat.le_of_ble_eq_true rfl) rfl ?_
  refine w_aload_n 4 dL_law_509 rfl rfl ?_
  refine x_V_I M_X12_thrown [] [] hs rfl dL_law_510 (lkL_150 _ rfl) (lt_of hnx (Nat.le_of_ble_eq_true rfl)) rfl rfl (Nat.le_of_ble_eq_true rfl) (by omega) (by omega) (Nat.le_of_ble_eq_true rfl) (c_Mo_thrown (Nat.le_trans (Nat.le_of_ble_eq_true rfl) hnx) s63) (fun y64 hy64 hs => ?_)
  refine w_iload 1 dL_law_513 rfl ?_
  refine x_icmpeq hs dL_law_515 rfl (fun hs => ?_) (fun hs => ?_)
  · refine w_iload 1 dL_law_520 rfl ?_
    refine x_ifne hs dL_law_522 rfl (fun hs => ?_) (fun hs => ?_)
    · refine w_lv (lv' := [(0, .ref 1200), (1, .ref 0), (2, .ref 80), (3, .ref 100), (4, .ref 101), (5, vi x5)]) [2, 3, 4, 5, 6, 7] rfl ?_
      exact w_wid (by omega) (by omega) (q_La_law_b537 hnx hnK x5 hL h5 s63 hs hb he0)
    · refine w_aload_n 5 dL_law_525 rfl rfl ?_
      refine x_iconst dL_law_526 ?_
      refine grd_e hs (fun hg65 hs => ?_)
      refine x_lald ⟨by decide, by decide⟩ (Nat.le_of_ble_eq_true rfl) dL_law_527 rfl (lt_of hnx (Nat.le_of_ble_eq_true rfl)) ?_
      refine w_iload 0 dL_law_528 rfl ?_
      refine grd_e hs (fun hg66 hs => ?_)
      refine x_i2l dL_law_530 hg66 ?_
      refine grd_e hs (fun hg67 hs => ?_)
      refine x_lcmp dL_law_531 hg67.1 hg67.2 ?_
      refine x_ifeq hs dL_law_532 rfl (fun hs => ?_) (fun hs => ?_)
      · refine w_lv (lv' := [(0, .ref 1200), (1, .ref 0), (2, .ref 80), (3, .ref 100), (4, .ref 101), (5, vi x5)]) [2, 3, 4, 5, 6, 7] rfl ?_
        exact w_wid (by omega) (by omega) (q_La_law_b537 hnx hnK x5 hL h5 s63 hs hb he0)
      · cases hs
  · cases hs
set_option maxRecDepth 100000 in
set_option maxHeartbeats 4000000 in
theorem q_La_law_b605 {C : Cx} {nx : Nat} (hnx : 102 ≤ nx) (hnK : KN ≤ nx) {Qr : Option Value → Hp → Prop} {Qx : String → Hp → Prop}  (x5 : Int) (hL : xL C ≤ 2048) (h5 : 0 ≤ x5 ∧ x5 < (xL C : Int)) (s : Sg) {o : ((Int × Sg) ⊕ (Sg))} (hs : La_law_b605 (xL C) x5 s = some o) (hb : ∀ σ : Int × Sg, o = .inl σ → ww C M_L_law 17 601024 7293034 nx (Qr) (Qx) nx (3 * σ.1.toNat + 1000) (18 * σ.1.toNat + 100000) 28 [(0, .ref 1200), (1, .ref 0), (2, .ref 80), (3, .ref 100), (4, .ref 101), (5, vi σ.1)] [] (hp nx σ.2)) (he0 : ∀ ρ : Sg, o = .inr ρ → ww C M_L_law 17 601024 7293034 nx (Qr) (Qx) nx 8000 150000 2713 [] [] (hp nx ρ)) : ww C M_L_law 17 601024 7293034 nx (Qr) (Qx) nx (3 * x5.toNat + 1003) (18 * x5.toNat + 100018) 605 [(0, .ref 1200), (1, .ref 0), (2, .ref 80), (3, .ref 100), (4, .ref 101), (5, vi x5)] [] (hp nx s) := by
  unfold La_law_b605 at hs
  refine w_goto dL_law_605 rfl ?_
  exact w_wid (by omega) (by omega) (q_La_law_b2707 hnx hnK x5 hL h5 s hs hb he0)
set_option maxRecDepth 100000 in
set_option maxHeartbeats 4000000 in
theorem q_La_law_b540 {C : Cx} {nx : Nat} (hnx : 102 ≤ nx) (hnK : KN ≤ nx) {Qr : Option Value → Hp → Prop} {Qx : String → Hp → Prop}  (x5 : Int) (hL : xL C ≤ 2048) (h5 : 0 ≤ x5 ∧ x5 < (xL C : Int)) (s : Sg) {o : ((Int × Sg) ⊕ (Sg))} (hs : La_law_b540 (xL C) x5 s = some o) (hb : ∀ σ : Int × Sg, o = .inl σ → ww C M_L_law 17 601024 7293034 nx (Qr) (Qx) nx (3 * σ.1.toNat + 1000) (18 * σ.1.toNat + 100000) 28 [(0, .ref 1200), (1, .ref 0), (2, .ref 80), (3, .ref 100), (4, .ref 101), (5, vi σ.1)] [] (hp nx σ.2)) (he0 : ∀ ρ : Sg, o = .inr ρ → ww C M_L_law 17 601024 7293034 nx (Qr) (Qx) nx 8000 150000 2713 [] [] (hp nx ρ)) : ww C M_L_law 17 601024 7293034 nx (Qr) (Qx) nx (3 * x5.toNat + 1000) (18 * x5.toNat + 100000) 540 [(0, .ref 1200), (1, .ref 0), (2, .ref 80), (3, .ref 100), (4, .ref 101), (5, vi x5)] [] (hp nx s) := by
  unfold La_law_b540 at hs
  refine w_aload_n 1 dL_law_540 rfl rfl ?_
  refine w_aload_n 0 dL_law_541 rfl rfl ?_
  refine w_iload 5 dL_law_542 rfl ?_
  refine x_iconst dL_law_544 ?_
  refine x_iadd dL_law_545 ?_
  refine grd_e hs (fun hg70 hs => ?_)
  refine x_iald hg70 (Nat.le_trans hL (Nat.le_of_ble_eq_true rfl)) dL_law_546 (Or.inr (List.mem_of_getElem? (i := 8) rfl)) ?_
  refine w_aload_n 0 dL_law_547 rfl rfl ?_
  refine w_iload 5 dL_law_548 rfl ?_
  refine x_iconst dL_law_550 ?_
  refine x_iadd dL_law_551 ?_
  refine grd_e hs (fun hg71 hs => ?_)
  refine x_iald hg71 (Nat.le_trans hL (Nat.le_of_ble_eq_true rfl)) dL_law_552 (Or.inr (List.mem_of_getElem? (i := 8) rfl)) ?_
  refine w_aload_n 3 dL_law_553 rfl rfl ?_
  refine x_SW_B M_L_group [.ref 0, vi (gi s 1200 (x5 + 1).toNat), vi (gi s 1200 (x5 + 2).toNat), .ref 100] [] (k2 := (3 * x5.toNat + 1003)) (n2 := (18 * x5.toNat + 100018)) hs rfl dL_law_554 (lkL_160 _ rfl) (Nat.le_of_ble_eq_true rfl) (by omega) (by omega) (by omega) (by omega) (Nat.le_of_ble_eq_true rfl) (c_La_group hnx hnK (gi s 1200 (x5 + 1).toNat) (gi s 1200 (x5 + 2).toNat) s) (fun y72 s73 hy72 hs => ?_)
  refine w_istore (lv' := [(6, vi y72), (0, .ref 1200), (1, .ref 0), (2, .ref 80), (3, .ref 100), (4, .ref 101), (5, vi x5)]) dL_law_557 (Nat.le_of_ble_eq_true rfl) rfl ?_
  refine w_aload_n 3 dL_law_559 rfl rfl ?_
  refine w_aload_n 1 dL_law_560 rfl rfl ?_
  refine w_iload 6 dL_law_561 rfl ?_
  refine x_iconst dL_law_563 ?_
  refine x_iadd dL_law_564 ?_
  refine grd_e hs (fun hg74 hs => ?_)
  refine x_iald hg74 (Nat.le_trans hL (Nat.le_of_ble_eq_true rfl)) dL_law_565 (Or.inr (List.mem_of_getElem? (i := 8) rfl)) ?_
  refine w_aload_n 1 dL_law_566 rfl rfl ?_
  refine w_iload 6 dL_law_567 rfl ?_
  refine x_iconst dL_law_569 ?_
  refine x_iadd dL_law_570 ?_
  refine grd_e hs (fun hg75 hs => ?_)
  refine x_iald hg75 (Nat.le_trans hL (Nat.le_of_ble_eq_true rfl)) dL_law_571 (Or.inr (List.mem_of_getElem? (i := 8) rfl)) ?_
  refine x_V_B M_X12_group [vi (gi s73 1200 (x5 + 1).toNat), vi (gi s73 1200 (x5 + 2).toNat)] [] hs rfl dL_law_572 (lkL_162 _ rfl) (lt_of hnx (Nat.le_of_ble_eq_true rfl)) rfl rfl (Nat.le_of_ble_eq_true rfl) (by omega) (by omega) (Nat.le_of_ble_eq_true rfl) (c_Mo_group (Nat.le_trans (Nat.le_of_ble_eq_true rfl) hnx) (gi s73 1200 (x5 + 1).toNat) (gi s73 1200 (x5 + 2).toNat) s73) (fun y76 s77 hy76 hs => ?_)
  refine w_istore (lv' := [(7, vi y76), (6, vi y72), (0, .ref 1200), (1, .ref 0), (2, .ref 80), (3, .ref 100), (4, .ref 101), (5, vi x5)]) dL_law_575 (Nat.le_of_ble_eq_true rfl) rfl ?_
  refine w_aload_n 4 dL_law_577 rfl rfl ?_
  refine x_V_I M_X12_thrown [] [] hs rfl dL_law_578 (lkL_150 _ rfl) (lt_of hnx (Nat.le_of_ble_eq_true rfl)) rfl rfl (Nat.le_of_ble_eq_true rfl) (by omega) (by omega) (Nat.le_of_ble_eq_true rfl) (c_Mo_thrown (Nat.le_trans (Nat.le_of_ble_eq_true rfl) hnx) s77) (fun y78 hy78 hs => ?_)
  refine w_iload 1 dL_law_581 rfl ?_
  refine x_icmpeq hs dL_law_583 rfl (fun hs => ?_) (fun hs => ?_)
  · refine w_iload 1 dL_law_588 rfl ?_
    refine x_ifne hs dL_law_590 rfl (fun hs => ?_) (fun hs => ?_)
    · refine w_lv (lv' := [(0, .ref 1200), (1, .ref 0), (2, .ref 80), (3, .ref 100), (4, .ref 101), (5, vi x5)]) [2, 3, 4, 5, 6, 7] rfl ?_
      exact w_wid (by omega) (by omega) (q_La_law_b605 hnx hnK x5 hL h5 s77 hs hb he0)
    · refine w_aload_n 5 dL_law_593 rfl rfl ?_
      refine x_iconst dL_law_594 ?_
      refine grd_e hs (fun hg79 hs => ?_)
      refine x_lald ⟨by decide, by decide⟩ (Nat.le_of_ble_eq_true rfl) dL_law_595 rfl (lt_of hnx (Nat.le_of_ble_eq_true rfl)) ?_
      refine w_iload 0 dL_law_596 rfl ?_
      refine grd_e hs (fun hg80 hs => ?_)
      refine x_i2l dL_law_598 hg80 ?_
      refine grd_e hs (fun hg81 hs => ?_)
      refine x_lcmp dL_law_599 hg81.1 hg81.2 ?_
      refine x_ifeq hs dL_law_600 rfl (fun hs => ?_) (fun hs => ?_)
      · refine w_lv (lv' := [(0, .ref 1200), (1, .ref 0), (2, .ref 80), (3, .ref 100), (4, .ref 101), (5, vi x5)]) [2, 3, 4, 5, 6, 7] rfl ?_
        exact w_wid (by omega) (by omega) (q_La_law_b605 hnx hnK x5 hL h5 s77 hs hb he0)
      · cases hs
  · cases hs
set_option maxRecDepth 100000 in
set_option maxHeartbeats 4000000 in
theorem q_La_law_b661 {C : Cx} {nx : Nat} (hnx : 102 ≤ nx) (hnK : KN ≤ nx) {Qr : Option Value → Hp → Prop} {Qx : String → Hp → Prop}  (x5 : Int) (hL : xL C ≤ 2048) (h5 : 0 ≤ x5 ∧ x5 < (xL C : Int)) (s : Sg) {o : ((Int × Sg) ⊕ (Sg))} (hs : La_law_b661 (xL C) x5 s = some o) (hb : ∀ σ : Int × Sg, o = .inl σ → ww C M_L_law 17 601024 7293034 nx (Qr) (Qx) nx (3 * σ.1.toNat + 1000) (18 * σ.1.toNat + 100000) 28 [(0, .ref 1200), (1, .ref 0), (2, .ref 80), (3, .ref 100), (4, .ref 101), (5, vi σ.1)] [] (hp nx σ.2)) (he0 : ∀ ρ : Sg, o = .inr ρ → ww C M_L_law 17 601024 7293034 nx (Qr) (Qx) nx 8000 150000 2713 [] [] (hp nx ρ)) : ww C M_L_law 17 601024 7293034 nx (Qr) (Qx) nx (3 * x5.toNat + 1003) (18 * x5.toNat + 100018) 661 [(0, .ref 1200), (1, .ref 0), (2, .ref 80), (3, .ref 100), (4, .ref 101), (5, vi x5)] [] (hp nx s) := by
  unfold La_law_b661 at hs
  refine w_goto dL_law_661 rfl ?_
  exact w_wid (by omega) (by omega) (q_La_law_b2707 hnx hnK x5 hL h5 s hs hb he0)
set_option maxRecDepth 100000 in
set_option maxHeartbeats 4000000 in
theorem q_La_law_b608 {C : Cx} {nx : Nat} (hnx : 102 ≤ nx) (hnK : KN ≤ nx) {Qr : Option Value → Hp → Prop} {Qx : String → Hp → Prop}  (x5 : Int) (hL : xL C ≤ 2048) (h5 : 0 ≤ x5 ∧ x5 < (xL C : Int)) (s : Sg) {o : ((Int × Sg) ⊕ (Sg))} (hs : La_law_b608 (xL C) x5 s = some o) (hb : ∀ σ : Int × Sg, o = .inl σ → ww C M_L_law 17 601024 7293034 nx (Qr) (Qx) nx (3 * σ.1.toNat + 1000) (18 * σ.1.toNat + 100000) 28 [(0, .ref 1200), (1, .ref 0), (2, .ref 80), (3, .ref 100), (4, .ref 101), (5, vi σ.1)] [] (hp nx σ.2)) (he0 : ∀ ρ : Sg, o = .inr ρ → ww C M_L_law 17 601024 7293034 nx (Qr) (Qx) nx 8000 150000 2713 [] [] (hp nx ρ)) : ww C M_L_law 17 601024 7293034 nx (Qr) (Qx) nx (3 * x5.toNat + 1000) (18 * x5.toNat + 100000) 608 [(0, .ref 1200), (1, .ref 0), (2, .ref 80), (3, .ref 100), (4, .ref 101), (5, vi x5)] [] (hp nx s) := by
  unfold La_law_b608 at hs
  refine w_aload_n 1 dL_law_608 rfl rfl ?_
  refine w_aload_n 0 dL_law_609 rfl rfl ?_
  refine w_iload 5 dL_law_610 rfl ?_
  refine x_iconst dL_law_612 ?_
  refine x_iadd dL_law_613 ?_
  refine grd_e hs (fun hg84 hs => ?_)
  refine x_iald hg84 (Nat.le_trans hL (Nat.le_of_ble_eq_true rfl)) dL_law_614 (Or.inr (List.mem_of_getElem? (i := 8) rfl)) ?_
  refine w_aload_n 3 dL_law_615 rfl rfl ?_
  refine x_SW_B M_L_groups [.ref 0, vi (gi s 1200 (x5 + 1).toNat), .ref 100] [] (k2 := (3 * x5.toNat + 1003)) (n2 := (18 * x5.toNat + 100018)) hs rfl dL_law_616 (lkL_163 _ rfl) (Nat.le_of_ble_eq_true rfl) (by omega) (by omega) (by omega) (by omega) (Nat.le_of_ble_eq_true rfl) (c_La_groups hnx hnK (gi s 1200 (x5 + 1).toNat) s) (fun y85 s86 hy85 hs => ?_)
  refine w_istore (lv' := [(6, vi y85), (0, .ref 1200), (1, .ref 0), (2, .ref 80), (3, .ref 100), (4, .ref 101), (5, vi x5)]) dL_law_619 (Nat.le_of_ble_eq_true rfl) rfl ?_
  refine w_aload_n 3 dL_law_621 rfl rfl ?_
  refine w_aload_n 1 dL_law_622 rfl rfl ?_
  refine w_iload 6 dL_law_623 rfl ?_
  refine x_iconst dL_law_625 ?_
  refine x_iadd dL_law_626 ?_
  refine grd_e hs (fun hg87 hs => ?_)
  refine x_iald hg87 (Nat.le_trans hL (Nat.le_of_ble_eq_true rfl)) dL_law_627 (Or.inr (List.mem_of_getElem? (i := 8) rfl)) ?_
  refine x_V_B M_X12_groups [vi (gi s86 1200 (x5 + 1).toNat)] [] hs rfl dL_law_628 (lkL_165 _ rfl) (lt_of hnx (Nat.le_of_ble_eq_true rfl)) rfl rfl (Nat.le_of_ble_eq_true rfl) (by omega) (by omega) (Nat.le_of_ble_eq_true rfl) (c_Mo_groups (Nat.le_trans (Nat.le_of_ble_eq_true rfl) hnx) (gi s86 1200 (x5 + 1).toNat) s86) (fun y88 s89 hy88 hs => ?_)
  refine w_istore (lv' := [(7, vi y88), (6, vi y85), (0, .ref 1200), (1, .ref 0), (2, .ref 80), (3, .ref 100), (4, .ref 101), (5, vi x5)]) dL_law_631 (Nat.le_of_ble_eq_true rfl) rfl ?_
  refine w_aload_n 4 dL_law_633 rfl rfl ?_
  refine x_V_I M_X12_thrown [] [] hs rfl dL_law_634 (lkL_150 _ rfl) (lt_of hnx (Nat.le_of_ble_eq_true rfl)) rfl rfl (Nat.le_of_ble_eq_true rfl) (by omega) (by omega) (Nat.le_of_ble_eq_true rfl) (c_Mo_thrown (Nat.le_trans (Nat.le_of_ble_eq_true rfl) hnx) s89) (fun y90 hy90 hs => ?_)
  refine w_iload 1 dL_law_637 rfl ?_
  refine x_icmpeq hs dL_law_639 rfl (fun hs => ?_) (fun hs => ?_)
  · refine w_iload 1 dL_law_644 rfl ?_
    refine x_ifne hs dL_law_646 rfl (fun hs => ?_) (fun hs => ?_)
    · refine w_lv (lv' := [(0, .ref 1200), (1, .ref 0), (2, .ref 80), (3, .ref 100), (4, .ref 101), (5, vi x5)]) [2, 3, 4, 5, 6, 7] rfl ?_
      exact w_wid (by omega) (by omega) (q_La_law_b661 hnx hnK x5 hL h5 s89 hs hb he0)
    · refine w_aload_n 5 dL_law_649 rfl rfl ?_
      refine x_iconst dL_law_650 ?_
      refine grd_e hs (fun hg91 hs => ?_)
      refine x_lald ⟨by decide, by decide⟩ (Nat.le_of_ble_eq_true rfl) dL_law_651 rfl (lt_of hnx (Nat.le_of_ble_eq_true rfl)) ?_
      refine w_iload 0 dL_law_652 rfl ?_
      refine grd_e hs (fun hg92 hs => ?_)
      refine x_i2l dL_law_654 hg92 ?_
      refine grd_e hs (fun hg93 hs => ?_)
      refine x_lcmp dL_law_655 hg93.1 hg93.2 ?_
      refine x_ifeq hs dL_law_656 rfl (fun hs => ?_) (fun hs => ?_)
      · refine w_lv (lv' := [(0, .ref 1200), (1, .ref 0), (2, .ref 80), (3, .ref 100), (4, .ref 101), (5, vi x5)]) [2, 3, 4, 5, 6, 7] rfl ?_
        exact w_wid (by omega) (by omega) (q_La_law_b661 hnx hnK x5 hL h5 s89 hs hb he0)
      · cases hs
  · cases hs
set_option maxRecDepth 100000 in
set_option maxHeartbeats 4000000 in
theorem q_La_law_b717 {C : Cx} {nx : Nat} (hnx : 102 ≤ nx) (hnK : KN ≤ nx) {Qr : Option Value → Hp → Prop} {Qx : String → Hp → Prop}  (x5 : Int) (hL : xL C ≤ 2048) (h5 : 0 ≤ x5 ∧ x5 < (xL C : Int)) (s : Sg) {o : ((Int × Sg) ⊕ (Sg))} (hs : La_law_b717 (xL C) x5 s = some o) (hb : ∀ σ : Int × Sg, o = .inl σ → ww C M_L_law 17 601024 7293034 nx (Qr) (Qx) nx (3 * σ.1.toNat + 1000) (18 * σ.1.toNat + 100000) 28 [(0, .ref 1200), (1, .ref 0), (2, .ref 80), (3, .ref 100), (4, .ref 101), (5, vi σ.1)] [] (hp nx σ.2)) (he0 : ∀ ρ : Sg, o = .inr ρ → ww C M_L_law 17 601024 7293034 nx (Qr) (Qx) nx 8000 150000 2713 [] [] (hp nx ρ)) : ww C M_L_law 17 601024 7293034 nx (Qr) (Qx) nx (3 * x5.toNat + 1003) (18 * x5.toNat + 100018) 717 [(0, .ref 1200), (1, .ref 0), (2, .ref 80), (3, .ref 100), (4, .ref 101), (5, vi x5)] [] (hp nx s) := by
  unfold La_law_b717 at hs
  refine w_goto dL_law_717 rfl ?_
  exact w_wid (by omega) (by omega) (q_La_law_b2707 hnx hnK x5 hL h5 s hs hb he0)
set_option maxRecDepth 100000 in
set_option maxHeartbeats 4000000 in
theorem q_La_law_b664 {C : Cx} {nx : Nat} (hnx : 102 ≤ nx) (hnK : KN ≤ nx) {Qr : Option Value → Hp → Prop} {Qx : String → Hp → Prop}  (x5 : Int) (hL : xL C ≤ 2048) (h5 : 0 ≤ x5 ∧ x5 < (xL C : Int)) (s : Sg) {o : ((Int × Sg) ⊕ (Sg))} (hs : La_law_b664 (xL C) x5 s = some o) (hb : ∀ σ : Int × Sg, o = .inl σ → ww C M_L_law 17 601024 7293034 nx (Qr) (Qx) nx (3 * σ.1.toNat + 1000) (18 * σ.1.toNat + 100000) 28 [(0, .ref 1200), (1, .ref 0), (2, .ref 80), (3, .ref 100), (4, .ref 101), (5, vi σ.1)] [] (hp nx σ.2)) (he0 : ∀ ρ : Sg, o = .inr ρ → ww C M_L_law 17 601024 7293034 nx (Qr) (Qx) nx 8000 150000 2713 [] [] (hp nx ρ)) : ww C M_L_law 17 601024 7293034 nx (Qr) (Qx) nx (3 * x5.toNat + 1000) (18 * x5.toNat + 100000) 664 [(0, .ref 1200), (1, .ref 0), (2, .ref 80), (3, .ref 100), (4, .ref 101), (5, vi x5)] [] (hp nx s) := by
  unfold La_law_b664 at hs
  refine w_aload_n 1 dL_law_664 rfl rfl ?_
  refine w_aload_n 0 dL_law_665 rfl rfl ?_
  refine w_iload 5 dL_law_666 rfl ?_
  refine x_iconst dL_law_668 ?_
  refine x_iadd dL_law_669 ?_
  refine grd_e hs (fun hg96 hs => ?_)
  refine x_iald hg96 (Nat.le_trans hL (Nat.le_of_ble_eq_true rfl)) dL_law_670 (Or.inr (List.mem_of_getElem? (i := 8) rfl)) ?_
  refine w_aload_n 3 dL_law_671 rfl rfl ?_
  refine x_SW_B M_L_largest [.ref 0, vi (gi s 1200 (x5 + 1).toNat), .ref 100] [] (k2 := (3 * x5.toNat + 1003)) (n2 := (18 * x5.toNat + 100018)) hs rfl dL_law_672 (lkL_166 _ rfl) (Nat.le_of_ble_eq_true rfl) (by omega) (by omega) (by omega) (by omega) (Nat.le_of_ble_eq_true rfl) (c_La_largest hnx hnK (gi s 1200 (x5 + 1).toNat) s) (fun y97 s98 hy97 hs => ?_)
  refine w_istore (lv' := [(6, vi y97), (0, .ref 1200), (1, .ref 0), (2, .ref 80), (3, .ref 100), (4, .ref 101), (5, vi x5)]) dL_law_675 (Nat.le_of_ble_eq_true rfl) rfl ?_
  refine w_aload_n 3 dL_law_677 rfl rfl ?_
  refine w_aload_n 1 dL_law_678 rfl rfl ?_
  refine w_iload 6 dL_law_679 rfl ?_
  refine x_iconst dL_law_681 ?_
  refine x_iadd dL_law_682 ?_
  refine grd_e hs (fun hg99 hs => ?_)
  refine x_iald hg99 (Nat.le_trans hL (Nat.le_of_ble_eq_true rfl)) dL_law_683 (Or.inr (List.mem_of_getElem? (i := 8) rfl)) ?_
  refine x_V_B M_X12_largest [vi (gi s98 1200 (x5 + 1).toNat)] [] hs rfl dL_law_684 (lkL_168 _ rfl) (lt_of hnx (Nat.le_of_ble_eq_true rfl)) rfl rfl (Nat.le_of_ble_eq_true rfl) (by omega) (by omega) (Nat.le_of_ble_eq_true rfl) (c_Mo_largest (Nat.le_trans (Nat.le_of_ble_eq_true rfl) hnx) (gi s98 1200 (x5 + 1).toNat) s98) (fun y100 s101 hy100 hs => ?_)
  refine w_istore (lv' := [(7, vi y100), (6, vi y97), (0, .ref 1200), (1, .ref 0), (2, .ref 80), (3, .ref 100), (4, .ref 101), (5, vi x5)]) dL_law_687 (Nat.le_of_ble_eq_true rfl) rfl ?_
  refine w_aload_n 4 dL_law_689 rfl rfl ?_
  refine x_V_I M_X12_thrown [] [] hs rfl dL_law_690 (lkL_150 _ rfl) (lt_of hnx (Nat.le_of_ble_eq_true rfl)) rfl rfl (Nat.le_of_ble_eq_true rfl) (by omega) (by omega) (Nat.le_of_ble_eq_true rfl) (c_Mo_thrown (Nat.le_trans (Nat.le_of_ble_eq_true rfl) hnx) s101) (fun y102 hy102 hs => ?_)
  refine w_iload 1 dL_law_693 rfl ?_
  refine x_icmpeq hs dL_law_695 rfl (fun hs => ?_) (fun hs => ?_)
  · refine w_iload 1 dL_law_700 rfl ?_
    refine x_ifne hs dL_law_702 rfl (fun hs => ?_) (fun hs => ?_)
    · refine w_lv (lv' := [(0, .ref 1200), (1, .ref 0), (2, .ref 80), (3, .ref 100), (4, .ref 101), (5, vi x5)]) [2, 3, 4, 5, 6, 7] rfl ?_
      exact w_wid (by omega) (by omega) (q_La_law_b717 hnx hnK x5 hL h5 s101 hs hb he0)
    · refine w_aload_n 5 dL_law_705 rfl rfl ?_
      refine x_iconst dL_law_706 ?_
      refine grd_e hs (fun hg103 hs => ?_)
      refine x_lald ⟨by decide, by decide⟩ (Nat.le_of_ble_eq_true rfl) dL_law_707 rfl (lt_of hnx (Nat.le_of_ble_eq_true rfl)) ?_
      refine w_iload 0 dL_law_708 rfl ?_
      refine grd_e hs (fun hg104 hs => ?_)
      refine x_i2l dL_law_710 hg104 ?_
      refine grd_e hs (fun hg105 hs => ?_)
      refine x_lcmp dL_law_711 hg105.1 hg105.2 ?_
      refine x_ifeq hs dL_law_712 rfl (fun hs => ?_) (fun hs => ?_)
      · refine w_lv (lv' := [(0, .ref 1200), (1, .ref 0), (2, .ref 80), (3, .ref 100), (4, .ref 101), (5, vi x5)]) [2, 3, 4, 5, 6, 7] rfl ?_
        exact w_wid (by omega) (by omega) (q_La_law_b717 hnx hnK x5 hL h5 s101 hs hb he0)
      · cases hs
  · cases hs
set_option maxRecDepth 100000 in
set_option maxHeartbeats 4000000 in
theorem q_La_law_b792 {C : Cx} {nx : Nat} (hnx : 102 ≤ nx) (hnK : KN ≤ nx) {Qr : Option Value → Hp → Prop} {Qx : String → Hp → Prop}  (x5 : Int) (hL : xL C ≤ 2048) (h5 : 0 ≤ x5 ∧ x5 < (xL C : Int)) (s : Sg) {o : ((Int × Sg) ⊕ (Sg))} (hs : La_law_b792 (xL C) x5 s = some o) (hb : ∀ σ : Int × Sg, o = .inl σ → ww C M_L_law 17 601024 7293034 nx (Qr) (Qx) nx (3 * σ.1.toNat + 1000) (18 * σ.1.toNat + 100000) 28 [(0, .ref 1200), (1, .ref 0), (2, .ref 80), (3, .ref 100), (4, .ref 101), (5, vi σ.1)] [] (hp nx σ.2)) (he0 : ∀ ρ : Sg, o = .inr ρ → ww C M_L_law 17 601024 7293034 nx (Qr) (Qx) nx 8000 150000 2713 [] [] (hp nx ρ)) : ww C M_L_law 17 601024 7293034 nx (Qr) (Qx) nx (3 * x5.toNat + 1003) (18 * x5.toNat + 100018) 792 [(0, .ref 1200), (1, .ref 0), (2, .ref 80), (3, .ref 100), (4, .ref 101), (5, vi x5)] [] (hp nx s) := by
  unfold La_law_b792 at hs
  refine w_goto dL_law_792 rfl ?_
  exact w_wid (by omega) (by omega) (q_La_law_b2707 hnx hnK x5 hL h5 s hs hb he0)
set_option maxRecDepth 100000 in
set_option maxHeartbeats 4000000 in
theorem q_La_law_b786 {C : Cx} {nx : Nat} (hnx : 102 ≤ nx) (hnK : KN ≤ nx) {Qr : Option Value → Hp → Prop} {Qx : String → Hp → Prop}  (x5 : Int) (t0 : Int) (t1 : Int) (hL : xL C ≤ 2048) (h5 : 0 ≤ x5 ∧ x5 < (xL C : Int)) (s : Sg) {o : ((Int × Sg) ⊕ (Sg))} (hs : La_law_b786 (xL C) x5 t0 t1 s = some o) (hb : ∀ σ : Int × Sg, o = .inl σ → ww C M_L_law 17 601024 7293034 nx (Qr) (Qx) nx (3 * σ.1.toNat + 1000) (18 * σ.1.toNat + 100000) 28 [(0, .ref 1200), (1, .ref 0), (2, .ref 80), (3, .ref 100), (4, .ref 101), (5, vi σ.1)] [] (hp nx σ.2)) (he0 : ∀ ρ : Sg, o = .inr ρ → ww C M_L_law 17 601024 7293034 nx (Qr) (Qx) nx 8000 150000 2713 [] [] (hp nx ρ)) : ww C M_L_law 17 601024 7293034 nx (Qr) (Qx) nx (3 * x5.toNat + 1003) (18 * x5.toNat + 100018) 786 [(0, .ref 1200), (1, .ref 0), (2, .ref 80), (3, .ref 100), (4, .ref 101), (5, vi x5)] [vl t1, vl t0] (hp nx s) := by
  unfold La_law_b786 at hs
  refine grd_e hs (fun hg118 hs => ?_)
  refine x_lcmp dL_law_786 hg118.1 hg118.2 ?_
  refine x_ifeq hs dL_law_787 rfl (fun hs => ?_) (fun hs => ?_)
  · exact w_wid (by omega) (by omega) (q_La_law_b792 hnx hnK x5 hL h5 s hs hb he0)
  · cases hs
set_option maxRecDepth 100000 in
set_option maxHeartbeats 4000000 in
theorem q_La_law_b720 {C : Cx} {nx : Nat} (hnx : 102 ≤ nx) (hnK : KN ≤ nx) {Qr : Option Value → Hp → Prop} {Qx : String → Hp → Prop}  (x5 : Int) (hL : xL C ≤ 2048) (h5 : 0 ≤ x5 ∧ x5 < (xL C : Int)) (s : Sg) {o : ((Int × Sg) ⊕ (Sg))} (hs : La_law_b720 (xL C) x5 s = some o) (hb : ∀ σ : Int × Sg, o = .inl σ → ww C M_L_law 17 601024 7293034 nx (Qr) (Qx) nx (3 * σ.1.toNat + 1000) (18 * σ.1.toNat + 100000) 28 [(0, .ref 1200), (1, .ref 0), (2, .ref 80), (3, .ref 100), (4, .ref 101), (5, vi σ.1)] [] (hp nx σ.2)) (he0 : ∀ ρ : Sg, o = .inr ρ → ww C M_L_law 17 601024 7293034 nx (Qr) (Qx) nx 8000 150000 2713 [] [] (hp nx ρ)) : ww C M_L_law 17 601024 7293034 nx (Qr) (Qx) nx (3 * x5.toNat + 1000) (18 * x5.toNat + 100000) 720 [(0, .ref 1200), (1, .ref 0), (2, .ref 80), (3, .ref 100), (4, .ref 101), (5, vi x5)] [] (hp nx s) := by
  unfold La_law_b720 at hs
  refine w_aload_n 1 dL_law_720 rfl rfl ?_
  refine w_aload_n 0 dL_law_721 rfl rfl ?_
  refine w_iload 5 dL_law_722 rfl ?_
  refine x_iconst dL_law_724 ?_
  refine x_iadd dL_law_725 ?_
  refine grd_e hs (fun hg108 hs => ?_)
  refine x_iald hg108 (Nat.le_trans hL (Nat.le_of_ble_eq_true rfl)) dL_law_726 (Or.inr (List.mem_of_getElem? (i := 8) rfl)) ?_
  refine w_aload_n 0 dL_law_727 rfl rfl ?_
  refine w_iload 5 dL_law_728 rfl ?_
  refine x_iconst dL_law_730 ?_
  refine x_iadd dL_law_731 ?_
  refine grd_e hs (fun hg109 hs => ?_)
  refine x_iald hg109 (Nat.le_trans hL (Nat.le_of_ble_eq_true rfl)) dL_law_732 (Or.inr (List.mem_of_getElem? (i := 8) rfl)) ?_
  refine w_aload_n 3 dL_law_733 rfl rfl ?_
  refine x_SW_B M_L_isBridge [.ref 0, vi (gi s 1200 (x5 + 1).toNat), vi (gi s 1200 (x5 + 2).toNat), .ref 100] [] (k2 := (3 * x5.toNat + 1003)) (n2 := (18 * x5.toNat + 100018)) hs rfl dL_law_734 (lkL_169 _ rfl) (Nat.le_of_ble_eq_true rfl) (by omega) (by omega) (by omega) (by omega) (Nat.le_of_ble_eq_true rfl) (c_La_isBridge hnx hnK (gi s 1200 (x5 + 1).toNat) (gi s 1200 (x5 + 2).toNat) s) (fun y110 s111 hy110 hs => ?_)
  refine w_istore (lv' := [(6, vi y110), (0, .ref 1200), (1, .ref 0), (2, .ref 80), (3, .ref 100), (4, .ref 101), (5, vi x5)]) dL_law_737 (Nat.le_of_ble_eq_true rfl) rfl ?_
  refine w_aload_n 3 dL_law_739 rfl rfl ?_
  refine w_aload_n 1 dL_law_740 rfl rfl ?_
  refine w_iload 6 dL_law_741 rfl ?_
  refine x_iconst dL_law_743 ?_
  refine x_iadd dL_law_744 ?_
  refine grd_e hs (fun hg112 hs => ?_)
  refine x_iald hg112 (Nat.le_trans hL (Nat.le_of_ble_eq_true rfl)) dL_law_745 (Or.inr (List.mem_of_getElem? (i := 8) rfl)) ?_
  refine w_aload_n 1 dL_law_746 rfl rfl ?_
  refine w_iload 6 dL_law_747 rfl ?_
  refine x_iconst dL_law_749 ?_
  refine x_iadd dL_law_750 ?_
  refine grd_e hs (fun hg113 hs => ?_)
  refine x_iald hg113 (Nat.le_trans hL (Nat.le_of_ble_eq_true rfl)) dL_law_751 (Or.inr (List.mem_of_getElem? (i := 8) rfl)) ?_
  refine x_V_B M_X12_isBridge [vi (gi s111 1200 (x5 + 1).toNat), vi (gi s111 1200 (x5 + 2).toNat)] [] hs rfl dL_law_752 (lkL_171 _ rfl) (lt_of hnx (Nat.le_of_ble_eq_true rfl)) rfl rfl (Nat.le_of_ble_eq_true rfl) (by omega) (by omega) (Nat.le_of_ble_eq_true rfl) (c_Mo_isBridge (Nat.le_trans (Nat.le_of_ble_eq_true rfl) hnx) (gi s111 1200 (x5 + 1).toNat) (gi s111 1200 (x5 + 2).toNat) s111) (fun y114 s115 hy114 hs => ?_)
  refine w_istore (lv' := [(7, vi y114), (6, vi y110), (0, .ref 1200), (1, .ref 0), (2, .ref 80), (3, .ref 100), (4, .ref 101), (5, vi x5)]) dL_law_755 (Nat.le_of_ble_eq_true rfl) rfl ?_
  refine w_aload_n 4 dL_law_757 rfl rfl ?_
  refine x_V_I M_X12_thrown [] [] hs rfl dL_law_758 (lkL_150 _ rfl) (lt_of hnx (Nat.le_of_ble_eq_true rfl)) rfl rfl (Nat.le_of_ble_eq_true rfl) (by omega) (by omega) (Nat.le_of_ble_eq_true rfl) (c_Mo_thrown (Nat.le_trans (Nat.le_of_ble_eq_true rfl) hnx) s115) (fun y116 hy116 hs => ?_)
  refine w_iload 1 dL_law_761 rfl ?_
  refine x_icmpeq hs dL_law_763 rfl (fun hs => ?_) (fun hs => ?_)
  · refine w_iload 1 dL_law_768 rfl ?_
    refine x_ifne hs dL_law_770 rfl (fun hs => ?_) (fun hs => ?_)
    · refine w_lv (lv' := [(0, .ref 1200), (1, .ref 0), (2, .ref 80), (3, .ref 100), (4, .ref 101), (5, vi x5)]) [2, 3, 4, 5, 6, 7] rfl ?_
      exact w_wid (by omega) (by omega) (q_La_law_b792 hnx hnK x5 hL h5 s115 hs hb he0)
    · refine w_aload_n 5 dL_law_773 rfl rfl ?_
      refine x_iconst dL_law_774 ?_
      refine grd_e hs (fun hg117 hs => ?_)
      refine x_lald ⟨by decide, by decide⟩ (Nat.le_of_ble_eq_true rfl) dL_law_775 rfl (lt_of hnx (Nat.le_of_ble_eq_true rfl)) ?_
      refine w_iload 0 dL_law_776 rfl ?_
      refine x_ifeq hs dL_law_778 rfl (fun hs => ?_) (fun hs => ?_)
      · refine x_lconst (x := 0) dL_law_785 (by decide) ?_
        refine w_lv (lv' := [(0, .ref 1200), (1, .ref 0), (2, .ref 80), (3, .ref 100), (4, .ref 101), (5, vi x5)]) [2, 3, 4, 5, 6, 7] rfl ?_
        exact w_wid (by omega) (by omega) (q_La_law_b786 hnx hnK x5 (gl s115 100 0) 0 hL h5 s115 hs hb he0)
      · refine x_lconst (x := 1) dL_law_781 (by decide) ?_
        refine w_goto dL_law_782 rfl ?_
        refine w_lv (lv' := [(0, .ref 1200), (1, .ref 0), (2, .ref 80), (3, .ref 100), (4, .ref 101), (5, vi x5)]) [2, 3, 4, 5, 6, 7] rfl ?_
        exact w_wid (by omega) (by omega) (q_La_law_b786 hnx hnK x5 (gl s115 100 0) 1 hL h5 s115 hs hb he0)
  · cases hs
set_option maxRecDepth 100000 in
set_option maxHeartbeats 4000000 in
theorem q_La_law_b876 {C : Cx} {nx : Nat} (hnx : 102 ≤ nx) (hnK : KN ≤ nx) {Qr : Option Value → Hp → Prop} {Qx : String → Hp → Prop}  (x5 : Int) (hL : xL C ≤ 2048) (h5 : 0 ≤ x5 ∧ x5 < (xL C : Int)) (s : Sg) {o : ((Int × Sg) ⊕ (Sg))} (hs : La_law_b876 (xL C) x5 s = some o) (hb : ∀ σ : Int × Sg, o = .inl σ → ww C M_L_law 17 601024 7293034 nx (Qr) (Qx) nx (3 * σ.1.toNat + 1000) (18 * σ.1.toNat + 100000) 28 [(0, .ref 1200), (1, .ref 0), (2, .ref 80), (3, .ref 100), (4, .ref 101), (5, vi σ.1)] [] (hp nx σ.2)) (he0 : ∀ ρ : Sg, o = .inr ρ → ww C M_L_law 17 601024 7293034 nx (Qr) (Qx) nx 8000 150000 2713 [] [] (hp nx ρ)) : ww C M_L_law 17 601024 7293034 nx (Qr) (Qx) nx (3 * x5.toNat + 1003) (18 * x5.toNat + 100018) 876 [(0, .ref 1200), (1, .ref 0), (2, .ref 80), (3, .ref 100), (4, .ref 101), (5, vi x5)] [] (hp nx s) := by
  unfold La_law_b876 at hs
  refine w_goto dL_law_876 rfl ?_
  exact w_wid (by omega) (by omega) (q_La_law_b2707 hnx hnK x5 hL h5 s hs hb he0)
set_option maxRecDepth 100000 in
set_option maxHeartbeats 4000000 in
theorem q_La_law_b843 {C : Cx} {nx : Nat} (hnx : 102 ≤ nx) (hnK : KN ≤ nx) {Qr : Option Value → Hp → Prop} {Qx : String → Hp → Prop}  (x5 : Int) (x6 : Int) (t1 : Int) (t2 : Int) (hL : xL C ≤ 2048) (h5 : 0 ≤ x5 ∧ x5 < (xL C : Int)) (s : Sg) {o : ((Int × Sg) ⊕ (Sg))} (hs : La_law_b843 (xL C) x5 x6 t1 t2 s = some o) (hb : ∀ σ : Int × Sg, o = .inl σ → ww C M_L_law 17 601024 7293034 nx (Qr) (Qx) nx (3 * σ.1.toNat + 1000) (18 * σ.1.toNat + 100000) 28 [(0, .ref 1200), (1, .ref 0), (2, .ref 80), (3, .ref 100), (4, .ref 101), (5, vi σ.1)] [] (hp nx σ.2)) (he0 : ∀ ρ : Sg, o = .inr ρ → ww C M_L_law 17 601024 7293034 nx (Qr) (Qx) nx 8000 150000 2713 [] [] (hp nx ρ)) : ww C M_L_law 17 601024 7293034 nx (Qr) (Qx) nx (3 * x5.toNat + 1003) (18 * x5.toNat + 100018) 843 [(0, .ref 1200), (1, .ref 0), (2, .ref 80), (3, .ref 100), (4, .ref 101), (5, vi x5), (6, vi x6)] [vi t2, vi t1, .ref 80] (hp nx s) := by
  unfold La_law_b843 at hs
  refine x_V_B M_X12_bridges [vi t1, vi t2] [] hs rfl dL_law_843 (lkL_175 _ rfl) (lt_of hnx (Nat.le_of_ble_eq_true rfl)) rfl rfl (Nat.le_of_ble_eq_true rfl) (by omega) (by omega) (Nat.le_of_ble_eq_true rfl) (c_Mo_bridges (Nat.le_trans (Nat.le_of_ble_eq_true rfl) hnx) t1 t2 s) (fun y127 s128 hy127 hs => ?_)
  refine w_istore (lv' := [(7, vi y127), (0, .ref 1200), (1, .ref 0), (2, .ref 80), (3, .ref 100), (4, .ref 101), (5, vi x5), (6, vi x6)]) dL_law_846 (Nat.le_of_ble_eq_true rfl) rfl ?_
  refine w_aload_n 3 dL_law_848 rfl rfl ?_
  refine x_V_I M_X12_thrown [] [] hs rfl dL_law_849 (lkL_150 _ rfl) (lt_of hnx (Nat.le_of_ble_eq_true rfl)) rfl rfl (Nat.le_of_ble_eq_true rfl) (by omega) (by omega) (Nat.le_of_ble_eq_true rfl) (c_Mo_thrown (Nat.le_trans (Nat.le_of_ble_eq_true rfl) hnx) s128) (fun y129 hy129 hs => ?_)
  refine w_iload 7 dL_law_852 rfl ?_
  refine x_icmpeq hs dL_law_854 rfl (fun hs => ?_) (fun hs => ?_)
  · refine w_iload 7 dL_law_859 rfl ?_
    refine x_ifne hs dL_law_861 rfl (fun hs => ?_) (fun hs => ?_)
    · refine w_lv (lv' := [(0, .ref 1200), (1, .ref 0), (2, .ref 80), (3, .ref 100), (4, .ref 101), (5, vi x5)]) [1, 2, 3, 4, 5, 6] rfl ?_
      exact w_wid (by omega) (by omega) (q_La_law_b876 hnx hnK x5 hL h5 s128 hs hb he0)
    · refine w_aload_n 4 dL_law_864 rfl rfl ?_
      refine x_iconst dL_law_865 ?_
      refine grd_e hs (fun hg130 hs => ?_)
      refine x_lald ⟨by decide, by decide⟩ (Nat.le_of_ble_eq_true rfl) dL_law_866 rfl (lt_of hnx (Nat.le_of_ble_eq_true rfl)) ?_
      refine w_iload 0 dL_law_867 rfl ?_
      refine grd_e hs (fun hg131 hs => ?_)
      refine x_i2l dL_law_869 hg131 ?_
      refine grd_e hs (fun hg132 hs => ?_)
      refine x_lcmp dL_law_870 hg132.1 hg132.2 ?_
      refine x_ifeq hs dL_law_871 rfl (fun hs => ?_) (fun hs => ?_)
      · refine w_lv (lv' := [(0, .ref 1200), (1, .ref 0), (2, .ref 80), (3, .ref 100), (4, .ref 101), (5, vi x5)]) [1, 2, 3, 4, 5, 6] rfl ?_
        exact w_wid (by omega) (by omega) (q_La_law_b876 hnx hnK x5 hL h5 s128 hs hb he0)
      · cases hs
  · cases hs
set_option maxRecDepth 100000 in
set_option maxHeartbeats 4000000 in
theorem q_La_law_b816 {C : Cx} {nx : Nat} (hnx : 102 ≤ nx) (hnK : KN ≤ nx) {Qr : Option Value → Hp → Prop} {Qx : String → Hp → Prop}  (x5 : Int) (t1 : Int) (t2 : Int) (hL : xL C ≤ 2048) (h5 : 0 ≤ x5 ∧ x5 < (xL C : Int)) (s : Sg) {o : ((Int × Sg) ⊕ (Sg))} (hs : La_law_b816 (xL C) x5 t1 t2 s = some o) (hb : ∀ σ : Int × Sg, o = .inl σ → ww C M_L_law 17 601024 7293034 nx (Qr) (Qx) nx (3 * σ.1.toNat + 1000) (18 * σ.1.toNat + 100000) 28 [(0, .ref 1200), (1, .ref 0), (2, .ref 80), (3, .ref 100), (4, .ref 101), (5, vi σ.1)] [] (hp nx σ.2)) (he0 : ∀ ρ : Sg, o = .inr ρ → ww C M_L_law 17 601024 7293034 nx (Qr) (Qx) nx 8000 150000 2713 [] [] (hp nx ρ)) : ww C M_L_law 17 601024 7293034 nx (Qr) (Qx) nx (3 * x5.toNat + 1000) (18 * x5.toNat + 100000) 816 [(0, .ref 1200), (1, .ref 0), (2, .ref 80), (3, .ref 100), (4, .ref 101), (5, vi x5)] [vi t2, vi t1, .ref 0] (hp nx s) := by
  unfold La_law_b816 at hs
  refine w_aload_n 3 dL_law_816 rfl rfl ?_
  refine x_SW_B M_L_bridges [.ref 0, vi t1, vi t2, .ref 100] [] (k2 := (3 * x5.toNat + 1003)) (n2 := (18 * x5.toNat + 100018)) hs rfl dL_law_817 (lkL_172 _ rfl) (Nat.le_of_ble_eq_true rfl) (by omega) (by omega) (by omega) (by omega) (Nat.le_of_ble_eq_true rfl) (c_La_bridges hnx hnK t1 t2 s) (fun y123 s124 hy123 hs => ?_)
  refine w_istore (lv' := [(6, vi y123), (0, .ref 1200), (1, .ref 0), (2, .ref 80), (3, .ref 100), (4, .ref 101), (5, vi x5)]) dL_law_820 (Nat.le_of_ble_eq_true rfl) rfl ?_
  refine w_aload_n 3 dL_law_822 rfl rfl ?_
  refine w_aload_n 1 dL_law_823 rfl rfl ?_
  refine w_iload 6 dL_law_824 rfl ?_
  refine x_iconst dL_law_826 ?_
  refine x_iadd dL_law_827 ?_
  refine grd_e hs (fun hg125 hs => ?_)
  refine x_iald hg125 (Nat.le_trans hL (Nat.le_of_ble_eq_true rfl)) dL_law_828 (Or.inr (List.mem_of_getElem? (i := 8) rfl)) ?_
  refine w_aload_n 1 dL_law_829 rfl rfl ?_
  refine w_iload 6 dL_law_830 rfl ?_
  refine x_iconst dL_law_832 ?_
  refine x_iadd dL_law_833 ?_
  refine grd_e hs (fun hg126 hs => ?_)
  refine x_iald hg126 (Nat.le_trans hL (Nat.le_of_ble_eq_true rfl)) dL_law_834 (Or.inr (List.mem_of_getElem? (i := 8) rfl)) ?_
  refine x_ifeq hs dL_law_835 rfl (fun hs => ?_) (fun hs => ?_)
  · refine x_iconst dL_law_842 ?_
    refine w_lv (lv' := [(0, .ref 1200), (1, .ref 0), (2, .ref 80), (3, .ref 100), (4, .ref 101), (5, vi x5), (6, vi y123)]) [1, 2, 3, 4, 5, 6, 0] rfl ?_
    exact w_wid (by omega) (by omega) (q_La_law_b843 hnx hnK x5 y123 (gi s124 1200 (x5 + 1).toNat) 0 hL h5 s124 hs hb he0)
  · refine x_iconst dL_law_838 ?_
    refine w_goto dL_law_839 rfl ?_
    refine w_lv (lv' := [(0, .ref 1200), (1, .ref 0), (2, .ref 80), (3, .ref 100), (4, .ref 101), (5, vi x5), (6, vi y123)]) [1, 2, 3, 4, 5, 6, 0] rfl ?_
    exact w_wid (by omega) (by omega) (q_La_law_b843 hnx hnK x5 y123 (gi s124 1200 (x5 + 1).toNat) 1 hL h5 s124 hs hb he0)
set_option maxRecDepth 100000 in
set_option maxHeartbeats 4000000 in
theorem q_La_law_b795 {C : Cx} {nx : Nat} (hnx : 102 ≤ nx) (hnK : KN ≤ nx) {Qr : Option Value → Hp → Prop} {Qx : String → Hp → Prop}  (x5 : Int) (hL : xL C ≤ 2048) (h5 : 0 ≤ x5 ∧ x5 < (xL C : Int)) (s : Sg) {o : ((Int × Sg) ⊕ (Sg))} (hs : La_law_b795 (xL C) x5 s = some o) (hb : ∀ σ : Int × Sg, o = .inl σ → ww C M_L_law 17 601024 7293034 nx (Qr) (Qx) nx (3 * σ.1.toNat + 1000) (18 * σ.1.toNat + 100000) 28 [(0, .ref 1200), (1, .ref 0), (2, .ref 80), (3, .ref 100), (4, .ref 101), (5, vi σ.1)] [] (hp nx σ.2)) (he0 : ∀ ρ : Sg, o = .inr ρ → ww C M_L_law 17 601024 7293034 nx (Qr) (Qx) nx 8000 150000 2713 [] [] (hp nx ρ)) : ww C M_L_law 17 601024 7293034 nx (Qr) (Qx) nx (3 * x5.toNat + 1000) (18 * x5.toNat + 100000) 795 [(0, .ref 1200), (1, .ref 0), (2, .ref 80), (3, .ref 100), (4, .ref 101), (5, vi x5)] [] (hp nx s) := by
  unfold La_law_b795 at hs
  refine w_aload_n 1 dL_law_795 rfl rfl ?_
  refine w_aload_n 0 dL_law_796 rfl rfl ?_
  refine w_iload 5 dL_law_797 rfl ?_
  refine x_iconst dL_law_799 ?_
  refine x_iadd dL_law_800 ?_
  refine grd_e hs (fun hg121 hs => ?_)
  refine x_iald hg121 (Nat.le_trans hL (Nat.le_of_ble_eq_true rfl)) dL_law_801 (Or.inr (List.mem_of_getElem? (i := 8) rfl)) ?_
  refine w_aload_n 0 dL_law_802 rfl rfl ?_
  refine w_iload 5 dL_law_803 rfl ?_
  refine x_iconst dL_law_805 ?_
  refine x_iadd dL_law_806 ?_
  refine grd_e hs (fun hg122 hs => ?_)
  refine x_iald hg122 (Nat.le_trans hL (Nat.le_of_ble_eq_true rfl)) dL_law_807 (Or.inr (List.mem_of_getElem? (i := 8) rfl)) ?_
  refine x_ifeq hs dL_law_808 rfl (fun hs => ?_) (fun hs => ?_)
  · refine x_iconst dL_law_815 ?_
    exact w_wid (by omega) (by omega) (q_La_law_b816 hnx hnK x5 (gi s 1200 (x5 + 1).toNat) 0 hL h5 s hs hb he0)
  · refine x_iconst dL_law_811 ?_
    refine w_goto dL_law_812 rfl ?_
    exact w_wid (by omega) (by omega) (q_La_law_b816 hnx hnK x5 (gi s 1200 (x5 + 1).toNat) 1 hL h5 s hs hb he0)
set_option maxRecDepth 100000 in
set_option maxHeartbeats 4000000 in
theorem q_La_law_b956 {C : Cx} {nx : Nat} (hnx : 102 ≤ nx) (hnK : KN ≤ nx) {Qr : Option Value → Hp → Prop} {Qx : String → Hp → Prop}  (x5 : Int) (hL : xL C ≤ 2048) (h5 : 0 ≤ x5 ∧ x5 < (xL C : Int)) (s : Sg) {o : ((Int × Sg) ⊕ (Sg))} (hs : La_law_b956 (xL C) x5 s = some o) (hb : ∀ σ : Int × Sg, o = .inl σ → ww C M_L_law 17 601024 7293034 nx (Qr) (Qx) nx (3 * σ.1.toNat + 1000) (18 * σ.1.toNat + 100000) 28 [(0, .ref 1200), (1, .ref 0), (2, .ref 80), (3, .ref 100), (4, .ref 101), (5, vi σ.1)] [] (hp nx σ.2)) (he0 : ∀ ρ : Sg, o = .inr ρ → ww C M_L_law 17 601024 7293034 nx (Qr) (Qx) nx 8000 150000 2713 [] [] (hp nx ρ)) : ww C M_L_law 17 601024 7293034 nx (Qr) (Qx) nx (3 * x5.toNat + 1003) (18 * x5.toNat + 100018) 956 [(0, .ref 1200), (1, .ref 0), (2, .ref 80), (3, .ref 100), (4, .ref 101), (5, vi x5)] [] (hp nx s) := by
  unfold La_law_b956 at hs
  refine w_goto dL_law_956 rfl ?_
  exact w_wid (by omega) (by omega) (q_La_law_b2707 hnx hnK x5 hL h5 s hs hb he0)
set_option maxRecDepth 100000 in
set_option maxHeartbeats 4000000 in
theorem q_La_law_b879 {C : Cx} {nx : Nat} (hnx : 102 ≤ nx) (hnK : KN ≤ nx) {Qr : Option Value → Hp → Prop} {Qx : String → Hp → Prop}  (x5 : Int) (hL : xL C ≤ 2048) (h5 : 0 ≤ x5 ∧ x5 < (xL C : Int)) (s : Sg) {o : ((Int × Sg) ⊕ (Sg))} (hs : La_law_b879 (xL C) x5 s = some o) (hb : ∀ σ : Int × Sg, o = .inl σ → ww C M_L_law 17 601024 7293034 nx (Qr) (Qx) nx (3 * σ.1.toNat + 1000) (18 * σ.1.toNat + 100000) 28 [(0, .ref 1200), (1, .ref 0), (2, .ref 80), (3, .ref 100), (4, .ref 101), (5, vi σ.1)] [] (hp nx σ.2)) (he0 : ∀ ρ : Sg, o = .inr ρ → ww C M_L_law 17 601024 7293034 nx (Qr) (Qx) nx 8000 150000 2713 [] [] (hp nx ρ)) : ww C M_L_law 17 601024 7293034 nx (Qr) (Qx) nx (3 * x5.toNat + 1000) (18 * x5.toNat + 100000) 879 [(0, .ref 1200), (1, .ref 0), (2, .ref 80), (3, .ref 100), (4, .ref 101), (5, vi x5)] [] (hp nx s) := by
  unfold La_law_b879 at hs
  refine w_aload_n 1 dL_law_879 rfl rfl ?_
  refine w_aload_n 0 dL_law_880 rfl rfl ?_
  refine w_iload 5 dL_law_881 rfl ?_
  refine x_iconst dL_law_883 ?_
  refine x_iadd dL_law_884 ?_
  refine grd_e hs (fun hg135 hs => ?_)
  refine x_iald hg135 (Nat.le_trans hL (Nat.le_of_ble_eq_true rfl)) dL_law_885 (Or.inr (List.mem_of_getElem? (i := 8) rfl)) ?_
  refine w_aload_n 0 dL_law_886 rfl rfl ?_
  refine w_iload 5 dL_law_887 rfl ?_
  refine x_iconst dL_law_889 ?_
  refine x_iadd dL_law_890 ?_
  refine grd_e hs (fun hg136 hs => ?_)
  refine x_iald hg136 (Nat.le_trans hL (Nat.le_of_ble_eq_true rfl)) dL_law_891 (Or.inr (List.mem_of_getElem? (i := 8) rfl)) ?_
  refine w_aload_n 0 dL_law_892 rfl rfl ?_
  refine w_iload 5 dL_law_893 rfl ?_
  refine x_iconst dL_law_895 ?_
  refine x_iadd dL_law_896 ?_
  refine grd_e hs (fun hg137 hs => ?_)
  refine x_iald hg137 (Nat.le_trans hL (Nat.le_of_ble_eq_true rfl)) dL_law_897 (Or.inr (List.mem_of_getElem? (i := 8) rfl)) ?_
  refine w_aload_n 3 dL_law_898 rfl rfl ?_
  refine x_SW_B M_L_bridge [.ref 0, vi (gi s 1200 (x5 + 1).toNat), vi (gi s 1200 (x5 + 2).toNat), vi (gi s 1200 (x5 + 3).toNat), .ref 100] [] (k2 := (3 * x5.toNat + 1003)) (n2 := (18 * x5.toNat + 100018)) hs rfl dL_law_899 (lkL_176 _ rfl) (Nat.le_of_ble_eq_true rfl) (by omega) (by omega) (by omega) (by omega) (Nat.le_of_ble_eq_true rfl) (c_La_bridge hnx hnK (gi s 1200 (x5 + 1).toNat) (gi s 1200 (x5 + 2).toNat) (gi s 1200 (x5 + 3).toNat) s) (fun y138 s139 hy138 hs => ?_)
  refine w_istore (lv' := [(6, vi y138), (0, .ref 1200), (1, .ref 0), (2, .ref 80), (3, .ref 100), (4, .ref 101), (5, vi x5)]) dL_law_902 (Nat.le_of_ble_eq_true rfl) rfl ?_
  refine w_aload_n 3 dL_law_904 rfl rfl ?_
  refine w_aload_n 1 dL_law_905 rfl rfl ?_
  refine w_iload 6 dL_law_906 rfl ?_
  refine x_iconst dL_law_908 ?_
  refine x_iadd dL_law_909 ?_
  refine grd_e hs (fun hg140 hs => ?_)
  refine x_iald hg140 (Nat.le_trans hL (Nat.le_of_ble_eq_true rfl)) dL_law_910 (Or.inr (List.mem_of_getElem? (i := 8) rfl)) ?_
  refine w_aload_n 1 dL_law_911 rfl rfl ?_
  refine w_iload 6 dL_law_912 rfl ?_
  refine x_iconst dL_law_914 ?_
  refine x_iadd dL_law_915 ?_
  refine grd_e hs (fun hg141 hs => ?_)
  refine x_iald hg141 (Nat.le_trans hL (Nat.le_of_ble_eq_true rfl)) dL_law_916 (Or.inr (List.mem_of_getElem? (i := 8) rfl)) ?_
  refine w_aload_n 1 dL_law_917 rfl rfl ?_
  refine w_iload 6 dL_law_918 rfl ?_
  refine x_iconst dL_law_920 ?_
  refine x_iadd dL_law_921 ?_
  refine grd_e hs (fun hg142 hs => ?_)
  refine x_iald hg142 (Nat.le_trans hL (Nat.le_of_ble_eq_true rfl)) dL_law_922 (Or.inr (List.mem_of_getElem? (i := 8) rfl)) ?_
  refine x_V_B M_X12_bridge [vi (gi s139 1200 (x5 + 1).toNat), vi (gi s139 1200 (x5 + 2).toNat), vi (gi s139 1200 (x5 + 3).toNat)] [] hs rfl dL_law_923 (lkL_179 _ rfl) (lt_of hnx (Nat.le_of_ble_eq_true rfl)) rfl rfl (Nat.le_of_ble_eq_true rfl) (by omega) (by omega) (Nat.le_of_ble_eq_true rfl) (c_Mo_bridge (Nat.le_trans (Nat.le_of_ble_eq_true rfl) hnx) (gi s139 1200 (x5 + 1).toNat) (gi s139 1200 (x5 + 2).toNat) (gi s139 1200 (x5 + 3).toNat) s139) (fun y143 s144 hy143 hs => ?_)
  refine w_istore (lv' := [(7, vi y143), (6, vi y138), (0, .ref 1200), (1, .ref 0), (2, .ref 80), (3, .ref 100), (4, .ref 101), (5, vi x5)]) dL_law_926 (Nat.le_of_ble_eq_true rfl) rfl ?_
  refine w_aload_n 4 dL_law_928 rfl rfl ?_
  refine x_V_I M_X12_thrown [] [] hs rfl dL_law_929 (lkL_150 _ rfl) (lt_of hnx (Nat.le_of_ble_eq_true rfl)) rfl rfl (Nat.le_of_ble_eq_true rfl) (by omega) (by omega) (Nat.le_of_ble_eq_true rfl) (c_Mo_thrown (Nat.le_trans (Nat.le_of_ble_eq_true rfl) hnx) s144) (fun y145 hy145 hs => ?_)
  refine w_iload 1 dL_law_932 rfl ?_
  refine x_icmpeq hs dL_law_934 rfl (fun hs => ?_) (fun hs => ?_)
  · refine w_iload 1 dL_law_939 rfl ?_
    refine x_ifne hs dL_law_941 rfl (fun hs => ?_) (fun hs => ?_)
    · refine w_lv (lv' := [(0, .ref 1200), (1, .ref 0), (2, .ref 80), (3, .ref 100), (4, .ref 101), (5, vi x5)]) [2, 3, 4, 5, 6, 7] rfl ?_
      exact w_wid (by omega) (by omega) (q_La_law_b956 hnx hnK x5 hL h5 s144 hs hb he0)
    · refine w_aload_n 5 dL_law_944 rfl rfl ?_
      refine x_iconst dL_law_945 ?_
      refine grd_e hs (fun hg146 hs => ?_)
      refine x_lald ⟨by decide, by decide⟩ (Nat.le_of_ble_eq_true rfl) dL_law_946 rfl (lt_of hnx (Nat.le_of_ble_eq_true rfl)) ?_
      refine w_iload 0 dL_law_947 rfl ?_
      refine grd_e hs (fun hg147 hs => ?_)
      refine x_i2l dL_law_949 hg147 ?_
      refine grd_e hs (fun hg148 hs => ?_)
      refine x_lcmp dL_law_950 hg148.1 hg148.2 ?_
      refine x_ifeq hs dL_law_951 rfl (fun hs => ?_) (fun hs => ?_)
      · refine w_lv (lv' := [(0, .ref 1200), (1, .ref 0), (2, .ref 80), (3, .ref 100), (4, .ref 101), (5, vi x5)]) [2, 3, 4, 5, 6, 7] rfl ?_
        exact w_wid (by omega) (by omega) (q_La_law_b956 hnx hnK x5 hL h5 s144 hs hb he0)
      · cases hs
  · cases hs
set_option maxRecDepth 100000 in
set_option maxHeartbeats 4000000 in
theorem q_La_law_b1024 {C : Cx} {nx : Nat} (hnx : 102 ≤ nx) (hnK : KN ≤ nx) {Qr : Option Value → Hp → Prop} {Qx : String → Hp → Prop}  (x5 : Int) (hL : xL C ≤ 2048) (h5 : 0 ≤ x5 ∧ x5 < (xL C : Int)) (s : Sg) {o : ((Int × Sg) ⊕ (Sg))} (hs : La_law_b1024 (xL C) x5 s = some o) (hb : ∀ σ : Int × Sg, o = .inl σ → ww C M_L_law 17 601024 7293034 nx (Qr) (Qx) nx (3 * σ.1.toNat + 1000) (18 * σ.1.toNat + 100000) 28 [(0, .ref 1200), (1, .ref 0), (2, .ref 80), (3, .ref 100), (4, .ref 101), (5, vi σ.1)] [] (hp nx σ.2)) (he0 : ∀ ρ : Sg, o = .inr ρ → ww C M_L_law 17 601024 7293034 nx (Qr) (Qx) nx 8000 150000 2713 [] [] (hp nx ρ)) : ww C M_L_law 17 601024 7293034 nx (Qr) (Qx) nx (3 * x5.toNat + 1003) (18 * x5.toNat + 100018) 1024 [(0, .ref 1200), (1, .ref 0), (2, .ref 80), (3, .ref 100), (4, .ref 101), (5, vi x5)] [] (hp nx s) := by
  unfold La_law_b1024 at hs
  refine w_goto dL_law_1024 rfl ?_
  exact w_wid (by omega) (by omega) (q_La_law_b2707 hnx hnK x5 hL h5 s hs hb he0)
set_option maxRecDepth 100000 in
set_option maxHeartbeats 4000000 in
theorem q_La_law_b959 {C : Cx} {nx : Nat} (hnx : 102 ≤ nx) (hnK : KN ≤ nx) {Qr : Option Value → Hp → Prop} {Qx : String → Hp → Prop}  (x5 : Int) (hL : xL C ≤ 2048) (h5 : 0 ≤ x5 ∧ x5 < (xL C : Int)) (s : Sg) {o : ((Int × Sg) ⊕ (Sg))} (hs : La_law_b959 (xL C) x5 s = some o) (hb : ∀ σ : Int × Sg, o = .inl σ → ww C M_L_law 17 601024 7293034 nx (Qr) (Qx) nx (3 * σ.1.toNat + 1000) (18 * σ.1.toNat + 100000) 28 [(0, .ref 1200), (1, .ref 0), (2, .ref 80), (3, .ref 100), (4, .ref 101), (5, vi σ.1)] [] (hp nx σ.2)) (he0 : ∀ ρ : Sg, o = .inr ρ → ww C M_L_law 17 601024 7293034 nx (Qr) (Qx) nx 8000 150000 2713 [] [] (hp nx ρ)) : ww C M_L_law 17 601024 7293034 nx (Qr) (Qx) nx (3 * x5.toNat + 1000) (18 * x5.toNat + 100000) 959 [(0, .ref 1200), (1, .ref 0), (2, .ref 80), (3, .ref 100), (4, .ref 101), (5, vi x5)] [] (hp nx s) := by
  unfold La_law_b959 at hs
  refine w_aload_n 1 dL_law_959 rfl rfl ?_
  refine w_aload_n 0 dL_law_960 rfl rfl ?_
  refine w_iload 5 dL_law_961 rfl ?_
  refine x_iconst dL_law_963 ?_
  refine x_iadd dL_law_964 ?_
  refine grd_e hs (fun hg151 hs => ?_)
  refine x_iald hg151 (Nat.le_trans hL (Nat.le_of_ble_eq_true rfl)) dL_law_965 (Or.inr (List.mem_of_getElem? (i := 8) rfl)) ?_
  refine w_aload_n 0 dL_law_966 rfl rfl ?_
  refine w_iload 5 dL_law_967 rfl ?_
  refine x_iconst dL_law_969 ?_
  refine x_iadd dL_law_970 ?_
  refine grd_e hs (fun hg152 hs => ?_)
  refine x_iald hg152 (Nat.le_trans hL (Nat.le_of_ble_eq_true rfl)) dL_law_971 (Or.inr (List.mem_of_getElem? (i := 8) rfl)) ?_
  refine w_aload_n 3 dL_law_972 rfl rfl ?_
  refine x_SW_B M_L_chain [.ref 0, vi (gi s 1200 (x5 + 1).toNat), vi (gi s 1200 (x5 + 2).toNat), .ref 100] [] (k2 := (3 * x5.toNat + 1003)) (n2 := (18 * x5.toNat + 100018)) hs rfl dL_law_973 (lkL_180 _ rfl) (Nat.le_of_ble_eq_true rfl) (by omega) (by omega) (by omega) (by omega) (Nat.le_of_ble_eq_true rfl) (c_La_chain hnx hnK (gi s 1200 (x5 + 1).toNat) (gi s 1200 (x5 + 2).toNat) s) (fun y153 s154 hy153 hs => ?_)
  refine w_istore (lv' := [(6, vi y153), (0, .ref 1200), (1, .ref 0), (2, .ref 80), (3, .ref 100), (4, .ref 101), (5, vi x5)]) dL_law_976 (Nat.le_of_ble_eq_true rfl) rfl ?_
  refine w_aload_n 3 dL_law_978 rfl rfl ?_
  refine w_aload_n 1 dL_law_979 rfl rfl ?_
  refine w_iload 6 dL_law_980 rfl ?_
  refine x_iconst dL_law_982 ?_
  refine x_iadd dL_law_983 ?_
  refine grd_e hs (fun hg155 hs => ?_)
  refine x_iald hg155 (Nat.le_trans hL (Nat.le_of_ble_eq_true rfl)) dL_law_984 (Or.inr (List.mem_of_getElem? (i := 8) rfl)) ?_
  refine w_aload_n 1 dL_law_985 rfl rfl ?_
  refine w_iload 6 dL_law_986 rfl ?_
  refine x_iconst dL_law_988 ?_
  refine x_iadd dL_law_989 ?_
  refine grd_e hs (fun hg156 hs => ?_)
  refine x_iald hg156 (Nat.le_trans hL (Nat.le_of_ble_eq_true rfl)) dL_law_990 (Or.inr (List.mem_of_getElem? (i := 8) rfl)) ?_
  refine x_V_B M_X12_chain [vi (gi s154 1200 (x5 + 1).toNat), vi (gi s154 1200 (x5 + 2).toNat)] [] hs rfl dL_law_991 (lkL_182 _ rfl) (lt_of hnx (Nat.le_of_ble_eq_true rfl)) rfl rfl (Nat.le_of_ble_eq_true rfl) (by omega) (by omega) (Nat.le_of_ble_eq_true rfl) (c_Mo_chain (Nat.le_trans (Nat.le_of_ble_eq_true rfl) hnx) (gi s154 1200 (x5 + 1).toNat) (gi s154 1200 (x5 + 2).toNat) s154) (fun y157 s158 hy157 hs => ?_)
  refine w_istore (lv' := [(7, vi y157), (6, vi y153), (0, .ref 1200), (1, .ref 0), (2, .ref 80), (3, .ref 100), (4, .ref 101), (5, vi x5)]) dL_law_994 (Nat.le_of_ble_eq_true rfl) rfl ?_
  refine w_aload_n 4 dL_law_996 rfl rfl ?_
  refine x_V_I M_X12_thrown [] [] hs rfl dL_law_997 (lkL_150 _ rfl) (lt_of hnx (Nat.le_of_ble_eq_true rfl)) rfl rfl (Nat.le_of_ble_eq_true rfl) (by omega) (by omega) (Nat.le_of_ble_eq_true rfl) (c_Mo_thrown (Nat.le_trans (Nat.le_of_ble_eq_true rfl) hnx) s158) (fun y159 hy159 hs => ?_)
  refine w_iload 1 dL_law_1000 rfl ?_
  refine x_icmpeq hs dL_law_1002 rfl (fun hs => ?_) (fun hs => ?_)
  · refine w_iload 1 dL_law_1007 rfl ?_
    refine x_ifne hs dL_law_1009 rfl (fun hs => ?_) (fun hs => ?_)
    · refine w_lv (lv' := [(0, .ref 1200), (1, .ref 0), (2, .ref 80), (3, .ref 100), (4, .ref 101), (5, vi x5)]) [2, 3, 4, 5, 6, 7] rfl ?_
      exact w_wid (by omega) (by omega) (q_La_law_b1024 hnx hnK x5 hL h5 s158 hs hb he0)
    · refine w_aload_n 5 dL_law_1012 rfl rfl ?_
      refine x_iconst dL_law_1013 ?_
      refine grd_e hs (fun hg160 hs => ?_)
      refine x_lald ⟨by decide, by decide⟩ (Nat.le_of_ble_eq_true rfl) dL_law_1014 rfl (lt_of hnx (Nat.le_of_ble_eq_true rfl)) ?_
      refine w_iload 0 dL_law_1015 rfl ?_
      refine grd_e hs (fun hg161 hs => ?_)
      refine x_i2l dL_law_1017 hg161 ?_
      refine grd_e hs (fun hg162 hs => ?_)
      refine x_lcmp dL_law_1018 hg162.1 hg162.2 ?_
      refine x_ifeq hs dL_law_1019 rfl (fun hs => ?_) (fun hs => ?_)
      · refine w_lv (lv' := [(0, .ref 1200), (1, .ref 0), (2, .ref 80), (3, .ref 100), (4, .ref 101), (5, vi x5)]) [2, 3, 4, 5, 6, 7] rfl ?_
        exact w_wid (by omega) (by omega) (q_La_law_b1024 hnx hnK x5 hL h5 s158 hs hb he0)
      · cases hs
  · cases hs
set_option maxRecDepth 100000 in
set_option maxHeartbeats 4000000 in
theorem q_La_law_b1080 {C : Cx} {nx : Nat} (hnx : 102 ≤ nx) (hnK : KN ≤ nx) {Qr : Option Value → Hp → Prop} {Qx : String → Hp → Prop}  (x5 : Int) (hL : xL C ≤ 2048) (h5 : 0 ≤ x5 ∧ x5 < (xL C : Int)) (s : Sg) {o : ((Int × Sg) ⊕ (Sg))} (hs : La_law_b1080 (xL C) x5 s = some o) (hb : ∀ σ : Int × Sg, o = .inl σ → ww C M_L_law 17 601024 7293034 nx (Qr) (Qx) nx (3 * σ.1.toNat + 1000) (18 * σ.1.toNat + 100000) 28 [(0, .ref 1200), (1, .ref 0), (2, .ref 80), (3, .ref 100), (4, .ref 101), (5, vi σ.1)] [] (hp nx σ.2)) (he0 : ∀ ρ : Sg, o = .inr ρ → ww C M_L_law 17 601024 7293034 nx (Qr) (Qx) nx 8000 150000 2713 [] [] (hp nx ρ)) : ww C M_L_law 17 601024 7293034 nx (Qr) (Qx) nx (3 * x5.toNat + 1003) (18 * x5.toNat + 100018) 1080 [(0, .ref 1200), (1, .ref 0), (2, .ref 80), (3, .ref 100), (4, .ref 101), (5, vi x5)] [] (hp nx s) := by
  unfold La_law_b1080 at hs
  refine w_goto dL_law_1080 rfl ?_
  exact w_wid (by omega) (by omega) (q_La_law_b2707 hnx hnK x5 hL h5 s hs hb he0)
set_option maxRecDepth 100000 in
set_option maxHeartbeats 4000000 in
theorem q_La_law_b1027 {C : Cx} {nx : Nat} (hnx : 102 ≤ nx) (hnK : KN ≤ nx) {Qr : Option Value → Hp → Prop} {Qx : String → Hp → Prop}  (x5 : Int) (hL : xL C ≤ 2048) (h5 : 0 ≤ x5 ∧ x5 < (xL C : Int)) (s : Sg) {o : ((Int × Sg) ⊕ (Sg))} (hs : La_law_b1027 (xL C) x5 s = some o) (hb : ∀ σ : Int × Sg, o = .inl σ → ww C M_L_law 17 601024 7293034 nx (Qr) (Qx) nx (3 * σ.1.toNat + 1000) (18 * σ.1.toNat + 100000) 28 [(0, .ref 1200), (1, .ref 0), (2, .ref 80), (3, .ref 100), (4, .ref 101), (5, vi σ.1)] [] (hp nx σ.2)) (he0 : ∀ ρ : Sg, o = .inr ρ → ww C M_L_law 17 601024 7293034 nx (Qr) (Qx) nx 8000 150000 2713 [] [] (hp nx ρ)) : ww C M_L_law 17 601024 7293034 nx (Qr) (Qx) nx (3 * x5.toNat + 1000) (18 * x5.toNat + 100000) 1027 [(0, .ref 1200), (1, .ref 0), (2, .ref 80), (3, .ref 100), (4, .ref 101), (5, vi x5)] [] (hp nx s) := by
  unfold La_law_b1027 at hs
  refine w_aload_n 1 dL_law_1027 rfl rfl ?_
  refine w_aload_n 0 dL_law_1028 rfl rfl ?_
  refine w_iload 5 dL_law_1029 rfl ?_
  refine x_iconst dL_law_1031 ?_
  refine x_iadd dL_law_1032 ?_
  refine grd_e hs (fun hg165 hs => ?_)
  refine x_iald hg165 (Nat.le_trans hL (Nat.le_of_ble_eq_true rfl)) dL_law_1033 (Or.inr (List.mem_of_getElem? (i := 8) rfl)) ?_
  refine w_aload_n 3 dL_law_1034 rfl rfl ?_
  refine x_SW_B M_L_chains [.ref 0, vi (gi s 1200 (x5 + 1).toNat), .ref 100] [] (k2 := (3 * x5.toNat + 1003)) (n2 := (18 * x5.toNat + 100018)) hs rfl dL_law_1035 (lkL_183 _ rfl) (Nat.le_of_ble_eq_true rfl) (by omega) (by omega) (by omega) (by omega) (Nat.le_of_ble_eq_true rfl) (c_La_chains hnx hnK (gi s 1200 (x5 + 1).toNat) s) (fun y166 s167 hy166 hs => ?_)
  refine w_istore (lv' := [(6, vi y166), (0, .ref 1200), (1, .ref 0), (2, .ref 80), (3, .ref 100), (4, .ref 101), (5, vi x5)]) dL_law_1038 (Nat.le_of_ble_eq_true rfl) rfl ?_
  refine w_aload_n 3 dL_law_1040 rfl rfl ?_
  refine w_aload_n 1 dL_law_1041 rfl rfl ?_
  refine w_iload 6 dL_law_1042 rfl ?_
  refine x_iconst dL_law_1044 ?_
  refine x_iadd dL_law_1045 ?_
  refine grd_e hs (fun hg168 hs => ?_)
  refine x_iald hg168 (Nat.le_trans hL (Nat.le_of_ble_eq_true rfl)) dL_law_1046 (Or.inr (List.mem_of_getElem? (i := 8) rfl)) ?_
  refine x_V_B M_X12_chains [vi (gi s167 1200 (x5 + 1).toNat)] [] hs rfl dL_law_1047 (lkL_185 _ rfl) (lt_of hnx (Nat.le_of_ble_eq_true rfl)) rfl rfl (Nat.le_of_ble_eq_true rfl) (by omega) (by omega) (Nat.le_of_ble_eq_true rfl) (c_Mo_chains (Nat.le_trans (Nat.le_of_ble_eq_true rfl) hnx) (gi s167 1200 (x5 + 1).toNat) s167) (fun y169 s170 hy169 hs => ?_)
  refine w_istore (lv' := [(7, vi y169), (6, vi y166), (0, .ref 1200), (1, .ref 0), (2, .ref 80), (3, .ref 100), (4, .ref 101), (5, vi x5)]) dL_law_1050 (Nat.le_of_ble_eq_true rfl) rfl ?_
  refine w_aload_n 4 dL_law_1052 rfl rfl ?_
  refine x_V_I M_X12_thrown [] [] hs rfl dL_law_1053 (lkL_150 _ rfl) (lt_of hnx (Nat.le_of_ble_eq_true rfl)) rfl rfl (Nat.le_of_ble_eq_true rfl) (by omega) (by omega) (Nat.le_of_ble_eq_true rfl) (c_Mo_thrown (Nat.le_trans (Nat.le_of_ble_eq_true rfl) hnx) s170) (fun y171 hy171 hs => ?_)
  refine w_iload 1 dL_law_1056 rfl ?_
  refine x_icmpeq hs dL_law_1058 rfl (fun hs => ?_) (fun hs => ?_)
  · refine w_iload 1 dL_law_1063 rfl ?_
    refine x_ifne hs dL_law_1065 rfl (fun hs => ?_) (fun hs => ?_)
    · refine w_lv (lv' := [(0, .ref 1200), (1, .ref 0), (2, .ref 80), (3, .ref 100), (4, .ref 101), (5, vi x5)]) [2, 3, 4, 5, 6, 7] rfl ?_
      exact w_wid (by omega) (by omega) (q_La_law_b1080 hnx hnK x5 hL h5 s170 hs hb he0)
    · refine w_aload_n 5 dL_law_1068 rfl rfl ?_
      refine x_iconst dL_law_1069 ?_
      refine grd_e hs (fun hg172 hs => ?_)
      refine x_lald ⟨by decide, by decide⟩ (Nat.le_of_ble_eq_true rfl) dL_law_1070 rfl (lt_of hnx (Nat.le_of_ble_eq_true rfl)) ?_
      refine w_iload 0 dL_law_1071 rfl ?_
      refine grd_e hs (fun hg173 hs => ?_)
      refine x_i2l dL_law_1073 hg173 ?_
      refine grd_e hs (fun hg174 hs => ?_)
      refine x_lcmp dL_law_1074 hg174.1 hg174.2 ?_
      refine x_ifeq hs dL_law_1075 rfl (fun hs => ?_) (fun hs => ?_)
      · refine w_lv (lv' := [(0, .ref 1200), (1, .ref 0), (2, .ref 80), (3, .ref 100), (4, .ref 101), (5, vi x5)]) [2, 3, 4, 5, 6, 7] rfl ?_
        exact w_wid (by omega) (by omega) (q_La_law_b1080 hnx hnK x5 hL h5 s170 hs hb he0)
      · cases hs
  · cases hs
set_option maxRecDepth 100000 in
set_option maxHeartbeats 4000000 in
theorem q_La_law_b1143 {C : Cx} {nx : Nat} (hnx : 102 ≤ nx) (hnK : KN ≤ nx) {Qr : Option Value → Hp → Prop} {Qx : String → Hp → Prop}  (x5 : Int) (hL : xL C ≤ 2048) (h5 : 0 ≤ x5 ∧ x5 < (xL C : Int)) (s : Sg) {o : ((Int × Sg) ⊕ (Sg))} (hs : La_law_b1143 (xL C) x5 s = some o) (hb : ∀ σ : Int × Sg, o = .inl σ → ww C M_L_law 17 601024 7293034 nx (Qr) (Qx) nx (3 * σ.1.toNat + 1000) (18 * σ.1.toNat + 100000) 28 [(0, .ref 1200), (1, .ref 0), (2, .ref 80), (3, .ref 100), (4, .ref 101), (5, vi σ.1)] [] (hp nx σ.2)) (he0 : ∀ ρ : Sg, o = .inr ρ → ww C M_L_law 17 601024 7293034 nx (Qr) (Qx) nx 8000 150000 2713 [] [] (hp nx ρ)) : ww C M_L_law 17 601024 7293034 nx (Qr) (Qx) nx (3 * x5.toNat + 1003) (18 * x5.toNat + 100018) 1143 [(0, .ref 1200), (1, .ref 0), (2, .ref 80), (3, .ref 100), (4, .ref 101), (5, vi x5)] [] (hp nx s) := by
  unfold La_law_b1143 at hs
  refine w_goto dL_law_1143 rfl ?_
  exact w_wid (by omega) (by omega) (q_La_law_b2707 hnx hnK x5 hL h5 s hs hb he0)
set_option maxRecDepth 100000 in
set_option maxHeartbeats 4000000 in
theorem q_La_law_b1137 {C : Cx} {nx : Nat} (hnx : 102 ≤ nx) (hnK : KN ≤ nx) {Qr : Option Value → Hp → Prop} {Qx : String → Hp → Prop}  (x5 : Int) (t0 : Int) (t1 : Int) (hL : xL C ≤ 2048) (h5 : 0 ≤ x5 ∧ x5 < (xL C : Int)) (s : Sg) {o : ((Int × Sg) ⊕ (Sg))} (hs : La_law_b1137 (xL C) x5 t0 t1 s = some o) (hb : ∀ σ : Int × Sg, o = .inl σ → ww C M_L_law 17 601024 7293034 nx (Qr) (Qx) nx (3 * σ.1.toNat + 1000) (18 * σ.1.toNat + 100000) 28 [(0, .ref 1200), (1, .ref 0), (2, .ref 80), (3, .ref 100), (4, .ref 101), (5, vi σ.1)] [] (hp nx σ.2)) (he0 : ∀ ρ : Sg, o = .inr ρ → ww C M_L_law 17 601024 7293034 nx (Qr) (Qx) nx 8000 150000 2713 [] [] (hp nx ρ)) : ww C M_L_law 17 601024 7293034 nx (Qr) (Qx) nx (3 * x5.toNat + 1003) (18 * x5.toNat + 100018) 1137 [(0, .ref 1200), (1, .ref 0), (2, .ref 80), (3, .ref 100), (4, .ref 101), (5, vi x5)] [vl t1, vl t0] (hp nx s) := by
  unfold La_law_b1137 at hs
  refine grd_e hs (fun hg185 hs => ?_)
  refine x_lcmp dL_law_1137 hg185.1 hg185.2 ?_
  refine x_ifeq hs dL_law_1138 rfl (fun hs => ?_) (fun hs => ?_)
  · exact w_wid (by omega) (by omega) (q_La_law_b1143 hnx hnK x5 hL h5 s hs hb he0)
  · cases hs
set_option maxRecDepth 100000 in
set_option maxHeartbeats 4000000 in
theorem q_La_law_b1083 {C : Cx} {nx : Nat} (hnx : 102 ≤ nx) (hnK : KN ≤ nx) {Qr : Option Value → Hp → Prop} {Qx : String → Hp → Prop}  (x5 : Int) (hL : xL C ≤ 2048) (h5 : 0 ≤ x5 ∧ x5 < (xL C : Int)) (s : Sg) {o : ((Int × Sg) ⊕ (Sg))} (hs : La_law_b1083 (xL C) x5 s = some o) (hb : ∀ σ : Int × Sg, o = .inl σ → ww C M_L_law 17 601024 7293034 nx (Qr) (Qx) nx (3 * σ.1.toNat + 1000) (18 * σ.1.toNat + 100000) 28 [(0, .ref 1200), (1, .ref 0), (2, .ref 80), (3, .ref 100), (4, .ref 101), (5, vi σ.1)] [] (hp nx σ.2)) (he0 : ∀ ρ : Sg, o = .inr ρ → ww C M_L_law 17 601024 7293034 nx (Qr) (Qx) nx 8000 150000 2713 [] [] (hp nx ρ)) : ww C M_L_law 17 601024 7293034 nx (Qr) (Qx) nx (3 * x5.toNat + 1000) (18 * x5.toNat + 100000) 1083 [(0, .ref 1200), (1, .ref 0), (2, .ref 80), (3, .ref 100), (4, .ref 101), (5, vi x5)] [] (hp nx s) := by
  unfold La_law_b1083 at hs
  refine w_aload_n 1 dL_law_1083 rfl rfl ?_
  refine w_aload_n 0 dL_law_1084 rfl rfl ?_
  refine w_iload 5 dL_law_1085 rfl ?_
  refine x_iconst dL_law_1087 ?_
  refine x_iadd dL_law_1088 ?_
  refine grd_e hs (fun hg177 hs => ?_)
  refine x_iald hg177 (Nat.le_trans hL (Nat.le_of_ble_eq_true rfl)) dL_law_1089 (Or.inr (List.mem_of_getElem? (i := 8) rfl)) ?_
  refine w_aload_n 3 dL_law_1090 rfl rfl ?_
  refine x_SW_B M_L_isSafe [.ref 0, vi (gi s 1200 (x5 + 1).toNat), .ref 100] [] (k2 := (3 * x5.toNat + 1003)) (n2 := (18 * x5.toNat + 100018)) hs rfl dL_law_1091 (lkL_186 _ rfl) (Nat.le_of_ble_eq_true rfl) (by omega) (by omega) (by omega) (by omega) (Nat.le_of_ble_eq_true rfl) (c_La_isSafe hnx hnK (gi s 1200 (x5 + 1).toNat) s) (fun y178 s179 hy178 hs => ?_)
  refine w_istore (lv' := [(6, vi y178), (0, .ref 1200), (1, .ref 0), (2, .ref 80), (3, .ref 100), (4, .ref 101), (5, vi x5)]) dL_law_1094 (Nat.le_of_ble_eq_true rfl) rfl ?_
  refine w_aload_n 3 dL_law_1096 rfl rfl ?_
  refine w_aload_n 1 dL_law_1097 rfl rfl ?_
  refine w_iload 6 dL_law_1098 rfl ?_
  refine x_iconst dL_law_1100 ?_
  refine x_iadd dL_law_1101 ?_
  refine grd_e hs (fun hg180 hs => ?_)
  refine x_iald hg180 (Nat.le_trans hL (Nat.le_of_ble_eq_true rfl)) dL_law_1102 (Or.inr (List.mem_of_getElem? (i := 8) rfl)) ?_
  refine x_V_B M_X12_isSafe [vi (gi s179 1200 (x5 + 1).toNat)] [] hs rfl dL_law_1103 (lkL_188 _ rfl) (lt_of hnx (Nat.le_of_ble_eq_true rfl)) rfl rfl (Nat.le_of_ble_eq_true rfl) (by omega) (by omega) (Nat.le_of_ble_eq_true rfl) (c_Mo_isSafe (Nat.le_trans (Nat.le_of_ble_eq_true rfl) hnx) (gi s179 1200 (x5 + 1).toNat) s179) (fun y181 s182 hy181 hs => ?_)
  refine w_istore (lv' := [(7, vi y181), (6, vi y178), (0, .ref 1200), (1, .ref 0), (2, .ref 80), (3, .ref 100), (4, .ref 101), (5, vi x5)]) dL_law_1106 (Nat.le_of_ble_eq_true rfl) rfl ?_
  refine w_aload_n 4 dL_law_1108 rfl rfl ?_
  refine x_V_I M_X12_thrown [] [] hs rfl dL_law_1109 (lkL_150 _ rfl) (lt_of hnx (Nat.le_of_ble_eq_true rfl)) rfl rfl (Nat.le_of_ble_eq_true rfl) (by omega) (by omega) (Nat.le_of_ble_eq_true rfl) (c_Mo_thrown (Nat.le_trans (Nat.le_of_ble_eq_true rfl) hnx) s182) (fun y183 hy183 hs => ?_)
  refine w_iload 1 dL_law_1112 rfl ?_
  refine x_icmpeq hs dL_law_1114 rfl (fun hs => ?_) (fun hs => ?_)
  · refine w_iload 1 dL_law_1119 rfl ?_
    refine x_ifne hs dL_law_1121 rfl (fun hs => ?_) (fun hs => ?_)
    · refine w_lv (lv' := [(0, .ref 1200), (1, .ref 0), (2, .ref 80), (3, .ref 100), (4, .ref 101), (5, vi x5)]) [2, 3, 4, 5, 6, 7] rfl ?_
      exact w_wid (by omega) (by omega) (q_La_law_b1143 hnx hnK x5 hL h5 s182 hs hb he0)
    · refine w_aload_n 5 dL_law_1124 rfl rfl ?_
      refine x_iconst dL_law_1125 ?_
      refine grd_e hs (fun hg184 hs => ?_)
      refine x_lald ⟨by decide, by decide⟩ (Nat.le_of_ble_eq_true rfl) dL_law_1126 rfl (lt_of hnx (Nat.le_of_ble_eq_true rfl)) ?_
      refine w_iload 0 dL_law_1127 rfl ?_
      refine x_ifeq hs dL_law_1129 rfl (fun hs => ?_) (fun hs => ?_)
      · refine x_lconst (x := 0) dL_law_1136 (by decide) ?_
        refine w_lv (lv' := [(0, .ref 1200), (1, .ref 0), (2, .ref 80), (3, .ref 100), (4, .ref 101), (5, vi x5)]) [2, 3, 4, 5, 6, 7] rfl ?_
        exact w_wid (by omega) (by omega) (q_La_law_b1137 hnx hnK x5 (gl s182 100 0) 0 hL h5 s182 hs hb he0)
      · refine x_lconst (x := 1) dL_law_1132 (by decide) ?_
        refine w_goto dL_law_1133 rfl ?_
        refine w_lv (lv' := [(0, .ref 1200), (1, .ref 0), (2, .ref 80), (3, .ref 100), (4, .ref 101), (5, vi x5)]) [2, 3, 4, 5, 6, 7] rfl ?_
        exact w_wid (by omega) (by omega) (q_La_law_b1137 hnx hnK x5 (gl s182 100 0) 1 hL h5 s182 hs hb he0)
  · cases hs
set_option maxRecDepth 100000 in
set_option maxHeartbeats 4000000 in
theorem q_La_law_b1199 {C : Cx} {nx : Nat} (hnx : 102 ≤ nx) (hnK : KN ≤ nx) {Qr : Option Value → Hp → Prop} {Qx : String → Hp → Prop}  (x5 : Int) (hL : xL C ≤ 2048) (h5 : 0 ≤ x5 ∧ x5 < (xL C : Int)) (s : Sg) {o : ((Int × Sg) ⊕ (Sg))} (hs : La_law_b1199 (xL C) x5 s = some o) (hb : ∀ σ : Int × Sg, o = .inl σ → ww C M_L_law 17 601024 7293034 nx (Qr) (Qx) nx (3 * σ.1.toNat + 1000) (18 * σ.1.toNat + 100000) 28 [(0, .ref 1200), (1, .ref 0), (2, .ref 80), (3, .ref 100), (4, .ref 101), (5, vi σ.1)] [] (hp nx σ.2)) (he0 : ∀ ρ : Sg, o = .inr ρ → ww C M_L_law 17 601024 7293034 nx (Qr) (Qx) nx 8000 150000 2713 [] [] (hp nx ρ)) : ww C M_L_law 17 601024 7293034 nx (Qr) (Qx) nx (3 * x5.toNat + 1003) (18 * x5.toNat + 100018) 1199 [(0, .ref 1200), (1, .ref 0), (2, .ref 80), (3, .ref 100), (4, .ref 101), (5, vi x5)] [] (hp nx s) := by
  unfold La_law_b1199 at hs
  refine w_goto dL_law_1199 rfl ?_
  exact w_wid (by omega) (by omega) (q_La_law_b2707 hnx hnK x5 hL h5 s hs hb he0)
set_option maxRecDepth 100000 in
set_option maxHeartbeats 4000000 in
theorem q_La_law_b1146 {C : Cx} {nx : Nat} (hnx : 102 ≤ nx) (hnK : KN ≤ nx) {Qr : Option Value → Hp → Prop} {Qx : String → Hp → Prop}  (x5 : Int) (hL : xL C ≤ 2048) (h5 : 0 ≤ x5 ∧ x5 < (xL C : Int)) (s : Sg) {o : ((Int × Sg) ⊕ (Sg))} (hs : La_law_b1146 (xL C) x5 s = some o) (hb : ∀ σ : Int × Sg, o = .inl σ → ww C M_L_law 17 601024 7293034 nx (Qr) (Qx) nx (3 * σ.1.toNat + 1000) (18 * σ.1.toNat + 100000) 28 [(0, .ref 1200), (1, .ref 0), (2, .ref 80), (3, .ref 100), (4, .ref 101), (5, vi σ.1)] [] (hp nx σ.2)) (he0 : ∀ ρ : Sg, o = .inr ρ → ww C M_L_law 17 601024 7293034 nx (Qr) (Qx) nx 8000 150000 2713 [] [] (hp nx ρ)) : ww C M_L_law 17 601024 7293034 nx (Qr) (Qx) nx (3 * x5.toNat + 1000) (18 * x5.toNat + 100000) 1146 [(0, .ref 1200), (1, .ref 0), (2, .ref 80), (3, .ref 100), (4, .ref 101), (5, vi x5)] [] (hp nx s) := by
  unfold La_law_b1146 at hs
  refine w_aload_n 1 dL_law_1146 rfl rfl ?_
  refine w_aload_n 0 dL_law_1147 rfl rfl ?_
  refine w_iload 5 dL_law_1148 rfl ?_
  refine x_iconst dL_law_1150 ?_
  refine x_iadd dL_law_1151 ?_
  refine grd_e hs (fun hg188 hs => ?_)
  refine x_iald hg188 (Nat.le_trans hL (Nat.le_of_ble_eq_true rfl)) dL_law_1152 (Or.inr (List.mem_of_getElem? (i := 8) rfl)) ?_
  refine w_aload_n 3 dL_law_1153 rfl rfl ?_
  refine x_SW_B M_L_answer [.ref 0, vi (gi s 1200 (x5 + 1).toNat), .ref 100] [] (k2 := (3 * x5.toNat + 1003)) (n2 := (18 * x5.toNat + 100018)) hs rfl dL_law_1154 (lkL_189 _ rfl) (Nat.le_of_ble_eq_true rfl) (by omega) (by omega) (by omega) (by omega) (Nat.le_of_ble_eq_true rfl) (c_La_answer hnx hnK (gi s 1200 (x5 + 1).toNat) s) (fun y189 s190 hy189 hs => ?_)
  refine w_istore (lv' := [(6, vi y189), (0, .ref 1200), (1, .ref 0), (2, .ref 80), (3, .ref 100), (4, .ref 101), (5, vi x5)]) dL_law_1157 (Nat.le_of_ble_eq_true rfl) rfl ?_
  refine w_aload_n 3 dL_law_1159 rfl rfl ?_
  refine w_aload_n 1 dL_law_1160 rfl rfl ?_
  refine w_iload 6 dL_law_1161 rfl ?_
  refine x_iconst dL_law_1163 ?_
  refine x_iadd dL_law_1164 ?_
  refine grd_e hs (fun hg191 hs => ?_)
  refine x_iald hg191 (Nat.le_trans hL (Nat.le_of_ble_eq_true rfl)) dL_law_1165 (Or.inr (List.mem_of_getElem? (i := 8) rfl)) ?_
  refine x_V_B M_X12_answer [vi (gi s190 1200 (x5 + 1).toNat)] [] hs rfl dL_law_1166 (lkL_191 _ rfl) (lt_of hnx (Nat.le_of_ble_eq_true rfl)) rfl rfl (Nat.le_of_ble_eq_true rfl) (by omega) (by omega) (Nat.le_of_ble_eq_true rfl) (c_Mo_answer (Nat.le_trans (Nat.le_of_ble_eq_true rfl) hnx) (gi s190 1200 (x5 + 1).toNat) s190) (fun y192 s193 hy192 hs => ?_)
  refine w_istore (lv' := [(7, vi y192), (6, vi y189), (0, .ref 1200), (1, .ref 0), (2, .ref 80), (3, .ref 100), (4, .ref 101), (5, vi x5)]) dL_law_1169 (Nat.le_of_ble_eq_true rfl) rfl ?_
  refine w_aload_n 4 dL_law_1171 rfl rfl ?_
  refine x_V_I M_X12_thrown [] [] hs rfl dL_law_1172 (lkL_150 _ rfl) (lt_of hnx (Nat.le_of_ble_eq_true rfl)) rfl rfl (Nat.le_of_ble_eq_true rfl) (by omega) (by omega) (Nat.le_of_ble_eq_true rfl) (c_Mo_thrown (Nat.le_trans (Nat.le_of_ble_eq_true rfl) hnx) s193) (fun y194 hy194 hs => ?_)
  refine w_iload 1 dL_law_1175 rfl ?_
  refine x_icmpeq hs dL_law_1177 rfl (fun hs => ?_) (fun hs => ?_)
  · refine w_iload 1 dL_law_1182 rfl ?_
    refine x_ifne hs dL_law_1184 rfl (fun hs => ?_) (fun hs => ?_)
    · refine w_lv (lv' := [(0, .ref 1200), (1, .ref 0), (2, .ref 80), (3, .ref 100), (4, .ref 101), (5, vi x5)]) [2, 3, 4, 5, 6, 7] rfl ?_
      exact w_wid (by omega) (by omega) (q_La_law_b1199 hnx hnK x5 hL h5 s193 hs hb he0)
    · refine w_aload_n 5 dL_law_1187 rfl rfl ?_
      refine x_iconst dL_law_1188 ?_
      refine grd_e hs (fun hg195 hs => ?_)
      refine x_lald ⟨by decide, by decide⟩ (Nat.le_of_ble_eq_true rfl) dL_law_1189 rfl (lt_of hnx (Nat.le_of_ble_eq_true rfl)) ?_
      refine w_iload 0 dL_law_1190 rfl ?_
      refine grd_e hs (fun hg196 hs => ?_)
      refine x_i2l dL_law_1192 hg196 ?_
      refine grd_e hs (fun hg197 hs => ?_)
      refine x_lcmp dL_law_1193 hg197.1 hg197.2 ?_
      refine x_ifeq hs dL_law_1194 rfl (fun hs => ?_) (fun hs => ?_)
      · refine w_lv (lv' := [(0, .ref 1200), (1, .ref 0), (2, .ref 80), (3, .ref 100), (4, .ref 101), (5, vi x5)]) [2, 3, 4, 5, 6, 7] rfl ?_
        exact w_wid (by omega) (by omega) (q_La_law_b1199 hnx hnK x5 hL h5 s193 hs hb he0)
      · cases hs
  · cases hs
set_option maxRecDepth 100000 in
set_option maxHeartbeats 4000000 in
theorem q_La_law_b1255 {C : Cx} {nx : Nat} (hnx : 102 ≤ nx) (hnK : KN ≤ nx) {Qr : Option Value → Hp → Prop} {Qx : String → Hp → Prop}  (x5 : Int) (hL : xL C ≤ 2048) (h5 : 0 ≤ x5 ∧ x5 < (xL C : Int)) (s : Sg) {o : ((Int × Sg) ⊕ (Sg))} (hs : La_law_b1255 (xL C) x5 s = some o) (hb : ∀ σ : Int × Sg, o = .inl σ → ww C M_L_law 17 601024 7293034 nx (Qr) (Qx) nx (3 * σ.1.toNat + 1000) (18 * σ.1.toNat + 100000) 28 [(0, .ref 1200), (1, .ref 0), (2, .ref 80), (3, .ref 100), (4, .ref 101), (5, vi σ.1)] [] (hp nx σ.2)) (he0 : ∀ ρ : Sg, o = .inr ρ → ww C M_L_law 17 601024 7293034 nx (Qr) (Qx) nx 8000 150000 2713 [] [] (hp nx ρ)) : ww C M_L_law 17 601024 7293034 nx (Qr) (Qx) nx (3 * x5.toNat + 1003) (18 * x5.toNat + 100018) 1255 [(0, .ref 1200), (1, .ref 0), (2, .ref 80), (3, .ref 100), (4, .ref 101), (5, vi x5)] [] (hp nx s) := by
  unfold La_law_b1255 at hs
  refine w_goto dL_law_1255 rfl ?_
  exact w_wid (by omega) (by omega) (q_La_law_b2707 hnx hnK x5 hL h5 s hs hb he0)
set_option maxRecDepth 100000 in
set_option maxHeartbeats 4000000 in
theorem q_La_law_b1202 {C : Cx} {nx : Nat} (hnx : 102 ≤ nx) (hnK : KN ≤ nx) {Qr : Option Value → Hp → Prop} {Qx : String → Hp → Prop}  (x5 : Int) (hL : xL C ≤ 2048) (h5 : 0 ≤ x5 ∧ x5 < (xL C : Int)) (s : Sg) {o : ((Int × Sg) ⊕ (Sg))} (hs : La_law_b1202 (xL C) x5 s = some o) (hb : ∀ σ : Int × Sg, o = .inl σ → ww C M_L_law 17 601024 7293034 nx (Qr) (Qx) nx (3 * σ.1.toNat + 1000) (18 * σ.1.toNat + 100000) 28 [(0, .ref 1200), (1, .ref 0), (2, .ref 80), (3, .ref 100), (4, .ref 101), (5, vi σ.1)] [] (hp nx σ.2)) (he0 : ∀ ρ : Sg, o = .inr ρ → ww C M_L_law 17 601024 7293034 nx (Qr) (Qx) nx 8000 150000 2713 [] [] (hp nx ρ)) : ww C M_L_law 17 601024 7293034 nx (Qr) (Qx) nx (3 * x5.toNat + 1000) (18 * x5.toNat + 100000) 1202 [(0, .ref 1200), (1, .ref 0), (2, .ref 80), (3, .ref 100), (4, .ref 101), (5, vi x5)] [] (hp nx s) := by
  unfold La_law_b1202 at hs
  refine w_aload_n 1 dL_law_1202 rfl rfl ?_
  refine w_aload_n 0 dL_law_1203 rfl rfl ?_
  refine w_iload 5 dL_law_1204 rfl ?_
  refine x_iconst dL_law_1206 ?_
  refine x_iadd dL_law_1207 ?_
  refine grd_e hs (fun hg200 hs => ?_)
  refine x_iald hg200 (Nat.le_trans hL (Nat.le_of_ble_eq_true rfl)) dL_law_1208 (Or.inr (List.mem_of_getElem? (i := 8) rfl)) ?_
  refine w_aload_n 3 dL_law_1209 rfl rfl ?_
  refine x_SW_B M_L_threats [.ref 0, vi (gi s 1200 (x5 + 1).toNat), .ref 100] [] (k2 := (3 * x5.toNat + 1003)) (n2 := (18 * x5.toNat + 100018)) hs rfl dL_law_1210 (lkL_192 _ rfl) (Nat.le_of_ble_eq_true rfl) (by omega) (by omega) (by omega) (by omega) (Nat.le_of_ble_eq_true rfl) (c_La_threats hnx hnK (gi s 1200 (x5 + 1).toNat) s) (fun y201 s202 hy201 hs => ?_)
  refine w_istore (lv' := [(6, vi y201), (0, .ref 1200), (1, .ref 0), (2, .ref 80), (3, .ref 100), (4, .ref 101), (5, vi x5)]) dL_law_1213 (Nat.le_of_ble_eq_true rfl) rfl ?_
  refine w_aload_n 3 dL_law_1215 rfl rfl ?_
  refine w_aload_n 1 dL_law_1216 rfl rfl ?_
  refine w_iload 6 dL_law_1217 rfl ?_
  refine x_iconst dL_law_1219 ?_
  refine x_iadd dL_law_1220 ?_
  refine grd_e hs (fun hg203 hs => ?_)
  refine x_iald hg203 (Nat.le_trans hL (Nat.le_of_ble_eq_true rfl)) dL_law_1221 (Or.inr (List.mem_of_getElem? (i := 8) rfl)) ?_
  refine x_V_B M_X12_threats [vi (gi s202 1200 (x5 + 1).toNat)] [] hs rfl dL_law_1222 (lkL_194 _ rfl) (lt_of hnx (Nat.le_of_ble_eq_true rfl)) rfl rfl (Nat.le_of_ble_eq_true rfl) (by omega) (by omega) (Nat.le_of_ble_eq_true rfl) (c_Mo_threats (Nat.le_trans (Nat.le_of_ble_eq_true rfl) hnx) (gi s202 1200 (x5 + 1).toNat) s202) (fun y204 s205 hy204 hs => ?_)
  refine w_istore (lv' := [(7, vi y204), (6, vi y201), (0, .ref 1200), (1, .ref 0), (2, .ref 80), (3, .ref 100), (4, .ref 101), (5, vi x5)]) dL_law_1225 (Nat.le_of_ble_eq_true rfl) rfl ?_
  refine w_aload_n 4 dL_law_1227 rfl rfl ?_
  refine x_V_I M_X12_thrown [] [] hs rfl dL_law_1228 (lkL_150 _ rfl) (lt_of hnx (Nat.le_of_ble_eq_true rfl)) rfl rfl (Nat.le_of_ble_eq_true rfl) (by omega) (by omega) (Nat.le_of_ble_eq_true rfl) (c_Mo_thrown (Nat.le_trans (Nat.le_of_ble_eq_true rfl) hnx) s205) (fun y206 hy206 hs => ?_)
  refine w_iload 1 dL_law_1231 rfl ?_
  refine x_icmpeq hs dL_law_1233 rfl (fun hs => ?_) (fun hs => ?_)
  · refine w_iload 1 dL_law_1238 rfl ?_
    refine x_ifne hs dL_law_1240 rfl (fun hs => ?_) (fun hs => ?_)
    · refine w_lv (lv' := [(0, .ref 1200), (1, .ref 0), (2, .ref 80), (3, .ref 100), (4, .ref 101), (5, vi x5)]) [2, 3, 4, 5, 6, 7] rfl ?_
      exact w_wid (by omega) (by omega) (q_La_law_b1255 hnx hnK x5 hL h5 s205 hs hb he0)
    · refine w_aload_n 5 dL_law_1243 rfl rfl ?_
      refine x_iconst dL_law_1244 ?_
      refine grd_e hs (fun hg207 hs => ?_)
      refine x_lald ⟨by decide, by decide⟩ (Nat.le_of_ble_eq_true rfl) dL_law_1245 rfl (lt_of hnx (Nat.le_of_ble_eq_true rfl)) ?_
      refine w_iload 0 dL_law_1246 rfl ?_
      refine grd_e hs (fun hg208 hs => ?_)
      refine x_i2l dL_law_1248 hg208 ?_
      refine grd_e hs (fun hg209 hs => ?_)
      refine x_lcmp dL_law_1249 hg209.1 hg209.2 ?_
      refine x_ifeq hs dL_law_1250 rfl (fun hs => ?_) (fun hs => ?_)
      · refine w_lv (lv' := [(0, .ref 1200), (1, .ref 0), (2, .ref 80), (3, .ref 100), (4, .ref 101), (5, vi x5)]) [2, 3, 4, 5, 6, 7] rfl ?_
        exact w_wid (by omega) (by omega) (q_La_law_b1255 hnx hnK x5 hL h5 s205 hs hb he0)
      · cases hs
  · cases hs
set_option maxRecDepth 100000 in
set_option maxHeartbeats 4000000 in
theorem q_La_law_b1323 {C : Cx} {nx : Nat} (hnx : 102 ≤ nx) (hnK : KN ≤ nx) {Qr : Option Value → Hp → Prop} {Qx : String → Hp → Prop}  (x5 : Int) (hL : xL C ≤ 2048) (h5 : 0 ≤ x5 ∧ x5 < (xL C : Int)) (s : Sg) {o : ((Int × Sg) ⊕ (Sg))} (hs : La_law_b1323 (xL C) x5 s = some o) (hb : ∀ σ : Int × Sg, o = .inl σ → ww C M_L_law 17 601024 7293034 nx (Qr) (Qx) nx (3 * σ.1.toNat + 1000) (18 * σ.1.toNat + 100000) 28 [(0, .ref 1200), (1, .ref 0), (2, .ref 80), (3, .ref 100), (4, .ref 101), (5, vi σ.1)] [] (hp nx σ.2)) (he0 : ∀ ρ : Sg, o = .inr ρ → ww C M_L_law 17 601024 7293034 nx (Qr) (Qx) nx 8000 150000 2713 [] [] (hp nx ρ)) : ww C M_L_law 17 601024 7293034 nx (Qr) (Qx) nx (3 * x5.toNat + 1003) (18 * x5.toNat + 100018) 1323 [(0, .ref 1200), (1, .ref 0), (2, .ref 80), (3, .ref 100), (4, .ref 101), (5, vi x5)] [] (hp nx s) := by
  unfold La_law_b1323 at hs
  refine w_goto dL_law_1323 rfl ?_
  exact w_wid (by omega) (by omega) (q_La_law_b2707 hnx hnK x5 hL h5 s hs hb he0)
set_option maxRecDepth 100000 in
set_option maxHeartbeats 4000000 in
theorem q_La_law_b1258 {C : Cx} {nx : Nat} (hnx : 102 ≤ nx) (hnK : KN ≤ nx) {Qr : Option Value → Hp → Prop} {Qx : String → Hp → Prop}  (x5 : Int) (hL : xL C ≤ 2048) (h5 : 0 ≤ x5 ∧ x5 < (xL C : Int)) (s : Sg) {o : ((Int × Sg) ⊕ (Sg))} (hs : La_law_b1258 (xL C) x5 s = some o) (hb : ∀ σ : Int × Sg, o = .inl σ → ww C M_L_law 17 601024 7293034 nx (Qr) (Qx) nx (3 * σ.1.toNat + 1000) (18 * σ.1.toNat + 100000) 28 [(0, .ref 1200), (1, .ref 0), (2, .ref 80), (3, .ref 100), (4, .ref 101), (5, vi σ.1)] [] (hp nx σ.2)) (he0 : ∀ ρ : Sg, o = .inr ρ → ww C M_L_law 17 601024 7293034 nx (Qr) (Qx) nx 8000 150000 2713 [] [] (hp nx ρ)) : ww C M_L_law 17 601024 7293034 nx (Qr) (Qx) nx (3 * x5.toNat + 1000) (18 * x5.toNat + 100000) 1258 [(0, .ref 1200), (1, .ref 0), (2, .ref 80), (3, .ref 100), (4, .ref 101), (5, vi x5)] [] (hp nx s) := by
  unfold La_law_b1258 at hs
  refine w_aload_n 1 dL_law_1258 rfl rfl ?_
  refine w_aload_n 0 dL_law_1259 rfl rfl ?_
  refine w_iload 5 dL_law_1260 rfl ?_
  refine x_iconst dL_law_1262 ?_
  refine x_iadd dL_law_1263 ?_
  refine grd_e hs (fun hg212 hs => ?_)
  refine x_iald hg212 (Nat.le_trans hL (Nat.le_of_ble_eq_true rfl)) dL_law_1264 (Or.inr (List.mem_of_getElem? (i := 8) rfl)) ?_
  refine w_aload_n 0 dL_law_1265 rfl rfl ?_
  refine w_iload 5 dL_law_1266 rfl ?_
  refine x_iconst dL_law_1268 ?_
  refine x_iadd dL_law_1269 ?_
  refine grd_e hs (fun hg213 hs => ?_)
  refine x_iald hg213 (Nat.le_trans hL (Nat.le_of_ble_eq_true rfl)) dL_law_1270 (Or.inr (List.mem_of_getElem? (i := 8) rfl)) ?_
  refine w_aload_n 3 dL_law_1271 rfl rfl ?_
  refine x_SW_B M_L_threat [.ref 0, vi (gi s 1200 (x5 + 1).toNat), vi (gi s 1200 (x5 + 2).toNat), .ref 100] [] (k2 := (3 * x5.toNat + 1003)) (n2 := (18 * x5.toNat + 100018)) hs rfl dL_law_1272 (lkL_195 _ rfl) (Nat.le_of_ble_eq_true rfl) (by omega) (by omega) (by omega) (by omega) (Nat.le_of_ble_eq_true rfl) (c_La_threat hnx hnK (gi s 1200 (x5 + 1).toNat) (gi s 1200 (x5 + 2).toNat) s) (fun y214 s215 hy214 hs => ?_)
  refine w_istore (lv' := [(6, vi y214), (0, .ref 1200), (1, .ref 0), (2, .ref 80), (3, .ref 100), (4, .ref 101), (5, vi x5)]) dL_law_1275 (Nat.le_of_ble_eq_true rfl) rfl ?_
  refine w_aload_n 3 dL_law_1277 rfl rfl ?_
  refine w_aload_n 1 dL_law_1278 rfl rfl ?_
  refine w_iload 6 dL_law_1279 rfl ?_
  refine x_iconst dL_law_1281 ?_
  refine x_iadd dL_law_1282 ?_
  refine grd_e hs (fun hg216 hs => ?_)
  refine x_iald hg216 (Nat.le_trans hL (Nat.le_of_ble_eq_true rfl)) dL_law_1283 (Or.inr (List.mem_of_getElem? (i := 8) rfl)) ?_
  refine w_aload_n 1 dL_law_1284 rfl rfl ?_
  refine w_iload 6 dL_law_1285 rfl ?_
  refine x_iconst dL_law_1287 ?_
  refine x_iadd dL_law_1288 ?_
  refine grd_e hs (fun hg217 hs => ?_)
  refine x_iald hg217 (Nat.le_trans hL (Nat.le_of_ble_eq_true rfl)) dL_law_1289 (Or.inr (List.mem_of_getElem? (i := 8) rfl)) ?_
  refine x_V_B M_X12_threat [vi (gi s215 1200 (x5 + 1).toNat), vi (gi s215 1200 (x5 + 2).toNat)] [] hs rfl dL_law_1290 (lkL_197 _ rfl) (lt_of hnx (Nat.le_of_ble_eq_true rfl)) rfl rfl (Nat.le_of_ble_eq_true rfl) (by omega) (by omega) (Nat.le_of_ble_eq_true rfl) (c_Mo_threat (Nat.le_trans (Nat.le_of_ble_eq_true rfl) hnx) (gi s215 1200 (x5 + 1).toNat) (gi s215 1200 (x5 + 2).toNat) s215) (fun y218 s219 hy218 hs => ?_)
  refine w_istore (lv' := [(7, vi y218), (6, vi y214), (0, .ref 1200), (1, .ref 0), (2, .ref 80), (3, .ref 100), (4, .ref 101), (5, vi x5)]) dL_law_1293 (Nat.le_of_ble_eq_true rfl) rfl ?_
  refine w_aload_n 4 dL_law_1295 rfl rfl ?_
  refine x_V_I M_X12_thrown [] [] hs rfl dL_law_1296 (lkL_150 _ rfl) (lt_of hnx (Nat.le_of_ble_eq_true rfl)) rfl rfl (Nat.le_of_ble_eq_true rfl) (by omega) (by omega) (Nat.le_of_ble_eq_true rfl) (c_Mo_thrown (Nat.le_trans (Nat.le_of_ble_eq_true rfl) hnx) s219) (fun y220 hy220 hs => ?_)
  refine w_iload 1 dL_law_1299 rfl ?_
  refine x_icmpeq hs dL_law_1301 rfl (fun hs => ?_) (fun hs => ?_)
  · refine w_iload 1 dL_law_1306 rfl ?_
    refine x_ifne hs dL_law_1308 rfl (fun hs => ?_) (fun hs => ?_)
    · refine w_lv (lv' := [(0, .ref 1200), (1, .ref 0), (2, .ref 80), (3, .ref 100), (4, .ref 101), (5, vi x5)]) [2, 3, 4, 5, 6, 7] rfl ?_
      exact w_wid (by omega) (by omega) (q_La_law_b1323 hnx hnK x5 hL h5 s219 hs hb he0)
    · refine w_aload_n 5 dL_law_1311 rfl rfl ?_
      refine x_iconst dL_law_1312 ?_
      refine grd_e hs (fun hg221 hs => ?_)
      refine x_lald ⟨by decide, by decide⟩ (Nat.le_of_ble_eq_true rfl) dL_law_1313 rfl (lt_of hnx (Nat.le_of_ble_eq_true rfl)) ?_
      refine w_iload 0 dL_law_1314 rfl ?_
      refine grd_e hs (fun hg222 hs => ?_)
      refine x_i2l dL_law_1316 hg222 ?_
      refine grd_e hs (fun hg223 hs => ?_)
      refine x_lcmp dL_law_1317 hg223.1 hg223.2 ?_
      refine x_ifeq hs dL_law_1318 rfl (fun hs => ?_) (fun hs => ?_)
      · refine w_lv (lv' := [(0, .ref 1200), (1, .ref 0), (2, .ref 80), (3, .ref 100), (4, .ref 101), (5, vi x5)]) [2, 3, 4, 5, 6, 7] rfl ?_
        exact w_wid (by omega) (by omega) (q_La_law_b1323 hnx hnK x5 hL h5 s219 hs hb he0)
      · cases hs
  · cases hs
set_option maxRecDepth 100000 in
set_option maxHeartbeats 4000000 in
theorem q_La_law_b1326 {C : Cx} {nx : Nat} (hnx : 102 ≤ nx) (hnK : KN ≤ nx) {Qr : Option Value → Hp → Prop} {Qx : String → Hp → Prop}  (x5 : Int) (hL : xL C ≤ 2048) (h5 : 0 ≤ x5 ∧ x5 < (xL C : Int)) (s : Sg) {o : ((Int × Sg) ⊕ (Sg))} (hs : La_law_b1326 (xL C) x5 s = some o) (hb : ∀ σ : Int × Sg, o = .inl σ → ww C M_L_law 17 601024 7293034 nx (Qr) (Qx) nx (3 * σ.1.toNat + 1000) (18 * σ.1.toNat + 100000) 28 [(0, .ref 1200), (1, .ref 0), (2, .ref 80), (3, .ref 100), (4, .ref 101), (5, vi σ.1)] [] (hp nx σ.2)) (he0 : ∀ ρ : Sg, o = .inr ρ → ww C M_L_law 17 601024 7293034 nx (Qr) (Qx) nx 8000 150000 2713 [] [] (hp nx ρ)) : ww C M_L_law 17 601024 7293034 nx (Qr) (Qx) nx (3 * x5.toNat + 1000) (18 * x5.toNat + 100000) 1326 [(0, .ref 1200), (1, .ref 0), (2, .ref 80), (3, .ref 100), (4, .ref 101), (5, vi x5)] [] (hp nx s) := by
  unfold La_law_b1326 at hs
  refine w_aload_n 1 dL_law_1326 rfl rfl ?_
  refine x_V_B M_X11_forced [] [] hs rfl dL_law_1327 (lkL_198 _ rfl) (lt_of hnx (Nat.le_of_ble_eq_true rfl)) rfl rfl (Nat.le_of_ble_eq_true rfl) (by omega) (by omega) (Nat.le_of_ble_eq_true rfl) (c_Hx_forced (Nat.le_trans (Nat.le_of_ble_eq_true rfl) hnx) s) (fun y226 s227 hy226 hs => ?_)
  refine w_aload_n 2 dL_law_1330 rfl rfl ?_
  refine x_V_B M_X12_forced [] [vi y226] hs rfl dL_law_1331 (lkL_201 _ rfl) (lt_of hnx (Nat.le_of_ble_eq_true rfl)) rfl rfl (Nat.le_of_ble_eq_true rfl) (by omega) (by omega) (Nat.le_of_ble_eq_true rfl) (c_Mo_forced (Nat.le_trans (Nat.le_of_ble_eq_true rfl) hnx) s227) (fun y228 s229 hy228 hs => ?_)
  refine x_icmpeq hs dL_law_1334 rfl (fun hs => ?_) (fun hs => ?_)
  · exact w_wid (by omega) (by omega) (q_La_law_b2707 hnx hnK x5 hL h5 s229 hs hb he0)
  · cases hs
set_option maxRecDepth 100000 in
set_option maxHeartbeats 4000000 in
theorem q_La_law_b1392 {C : Cx} {nx : Nat} (hnx : 102 ≤ nx) (hnK : KN ≤ nx) {Qr : Option Value → Hp → Prop} {Qx : String → Hp → Prop}  (x5 : Int) (hL : xL C ≤ 2048) (h5 : 0 ≤ x5 ∧ x5 < (xL C : Int)) (s : Sg) {o : ((Int × Sg) ⊕ (Sg))} (hs : La_law_b1392 (xL C) x5 s = some o) (hb : ∀ σ : Int × Sg, o = .inl σ → ww C M_L_law 17 601024 7293034 nx (Qr) (Qx) nx (3 * σ.1.toNat + 1000) (18 * σ.1.toNat + 100000) 28 [(0, .ref 1200), (1, .ref 0), (2, .ref 80), (3, .ref 100), (4, .ref 101), (5, vi σ.1)] [] (hp nx σ.2)) (he0 : ∀ ρ : Sg, o = .inr ρ → ww C M_L_law 17 601024 7293034 nx (Qr) (Qx) nx 8000 150000 2713 [] [] (hp nx ρ)) : ww C M_L_law 17 601024 7293034 nx (Qr) (Qx) nx (3 * x5.toNat + 1003) (18 * x5.toNat + 100018) 1392 [(0, .ref 1200), (1, .ref 0), (2, .ref 80), (3, .ref 100), (4, .ref 101), (5, vi x5)] [] (hp nx s) := by
  unfold La_law_b1392 at hs
  refine w_goto dL_law_1392 rfl ?_
  exact w_wid (by omega) (by omega) (q_La_law_b2707 hnx hnK x5 hL h5 s hs hb he0)
set_option maxRecDepth 100000 in
set_option maxHeartbeats 4000000 in
theorem q_La_law_b1339 {C : Cx} {nx : Nat} (hnx : 102 ≤ nx) (hnK : KN ≤ nx) {Qr : Option Value → Hp → Prop} {Qx : String → Hp → Prop}  (x5 : Int) (hL : xL C ≤ 2048) (h5 : 0 ≤ x5 ∧ x5 < (xL C : Int)) (s : Sg) {o : ((Int × Sg) ⊕ (Sg))} (hs : La_law_b1339 (xL C) x5 s = some o) (hb : ∀ σ : Int × Sg, o = .inl σ → ww C M_L_law 17 601024 7293034 nx (Qr) (Qx) nx (3 * σ.1.toNat + 1000) (18 * σ.1.toNat + 100000) 28 [(0, .ref 1200), (1, .ref 0), (2, .ref 80), (3, .ref 100), (4, .ref 101), (5, vi σ.1)] [] (hp nx σ.2)) (he0 : ∀ ρ : Sg, o = .inr ρ → ww C M_L_law 17 601024 7293034 nx (Qr) (Qx) nx 8000 150000 2713 [] [] (hp nx ρ)) : ww C M_L_law 17 601024 7293034 nx (Qr) (Qx) nx (3 * x5.toNat + 1000) (18 * x5.toNat + 100000) 1339 [(0, .ref 1200), (1, .ref 0), (2, .ref 80), (3, .ref 100), (4, .ref 101), (5, vi x5)] [] (hp nx s) := by
  unfold La_law_b1339 at hs
  refine w_aload_n 1 dL_law_1339 rfl rfl ?_
  refine w_aload_n 0 dL_law_1340 rfl rfl ?_
  refine w_iload 5 dL_law_1341 rfl ?_
  refine x_iconst dL_law_1343 ?_
  refine x_iadd dL_law_1344 ?_
  refine grd_e hs (fun hg232 hs => ?_)
  refine x_iald hg232 (Nat.le_trans hL (Nat.le_of_ble_eq_true rfl)) dL_law_1345 (Or.inr (List.mem_of_getElem? (i := 8) rfl)) ?_
  refine w_aload_n 3 dL_law_1346 rfl rfl ?_
  refine x_SW_B M_L_distance [.ref 0, vi (gi s 1200 (x5 + 1).toNat), .ref 100] [] (k2 := (3 * x5.toNat + 1003)) (n2 := (18 * x5.toNat + 100018)) hs rfl dL_law_1347 (lkL_202 _ rfl) (Nat.le_of_ble_eq_true rfl) (by omega) (by omega) (by omega) (by omega) (Nat.le_of_ble_eq_true rfl) (c_La_distance hnx hnK (gi s 1200 (x5 + 1).toNat) s) (fun y233 s234 hy233 hs => ?_)
  refine w_istore (lv' := [(6, vi y233), (0, .ref 1200), (1, .ref 0), (2, .ref 80), (3, .ref 100), (4, .ref 101), (5, vi x5)]) dL_law_1350 (Nat.le_of_ble_eq_true rfl) rfl ?_
  refine w_aload_n 3 dL_law_1352 rfl rfl ?_
  refine w_aload_n 1 dL_law_1353 rfl rfl ?_
  refine w_iload 6 dL_law_1354 rfl ?_
  refine x_iconst dL_law_1356 ?_
  refine x_iadd dL_law_1357 ?_
  refine grd_e hs (fun hg235 hs => ?_)
  refine x_iald hg235 (Nat.le_trans hL (Nat.le_of_ble_eq_true rfl)) dL_law_1358 (Or.inr (List.mem_of_getElem? (i := 8) rfl)) ?_
  refine x_V_B M_X12_distance [vi (gi s234 1200 (x5 + 1).toNat)] [] hs rfl dL_law_1359 (lkL_204 _ rfl) (lt_of hnx (Nat.le_of_ble_eq_true rfl)) rfl rfl (Nat.le_of_ble_eq_true rfl) (by omega) (by omega) (Nat.le_of_ble_eq_true rfl) (c_Mo_distance (Nat.le_trans (Nat.le_of_ble_eq_true rfl) hnx) (gi s234 1200 (x5 + 1).toNat) s234) (fun y236 s237 hy236 hs => ?_)
  refine w_istore (lv' := [(7, vi y236), (6, vi y233), (0, .ref 1200), (1, .ref 0), (2, .ref 80), (3, .ref 100), (4, .ref 101), (5, vi x5)]) dL_law_1362 (Nat.le_of_ble_eq_true rfl) rfl ?_
  refine w_aload_n 4 dL_law_1364 rfl rfl ?_
  refine x_V_I M_X12_thrown [] [] hs rfl dL_law_1365 (lkL_150 _ rfl) (lt_of hnx (Nat.le_of_ble_eq_true rfl)) rfl rfl (Nat.le_of_ble_eq_true rfl) (by omega) (by omega) (Nat.le_of_ble_eq_true rfl) (c_Mo_thrown (Nat.le_trans (Nat.le_of_ble_eq_true rfl) hnx) s237) (fun y238 hy238 hs => ?_)
  refine w_iload 1 dL_law_1368 rfl ?_
  refine x_icmpeq hs dL_law_1370 rfl (fun hs => ?_) (fun hs => ?_)
  · refine w_iload 1 dL_law_1375 rfl ?_
    refine x_ifne hs dL_law_1377 rfl (fun hs => ?_) (fun hs => ?_)
    · refine w_lv (lv' := [(0, .ref 1200), (1, .ref 0), (2, .ref 80), (3, .ref 100), (4, .ref 101), (5, vi x5)]) [2, 3, 4, 5, 6, 7] rfl ?_
      exact w_wid (by omega) (by omega) (q_La_law_b1392 hnx hnK x5 hL h5 s237 hs hb he0)
    · refine w_aload_n 5 dL_law_1380 rfl rfl ?_
      refine x_iconst dL_law_1381 ?_
      refine grd_e hs (fun hg239 hs => ?_)
      refine x_lald ⟨by decide, by decide⟩ (Nat.le_of_ble_eq_true rfl) dL_law_1382 rfl (lt_of hnx (Nat.le_of_ble_eq_true rfl)) ?_
      refine w_iload 0 dL_law_1383 rfl ?_
      refine grd_e hs (fun hg240 hs => ?_)
      refine x_i2l dL_law_1385 hg240 ?_
      refine grd_e hs (fun hg241 hs => ?_)
      refine x_lcmp dL_law_1386 hg241.1 hg241.2 ?_
      refine x_ifeq hs dL_law_1387 rfl (fun hs => ?_) (fun hs => ?_)
      · refine w_lv (lv' := [(0, .ref 1200), (1, .ref 0), (2, .ref 80), (3, .ref 100), (4, .ref 101), (5, vi x5)]) [2, 3, 4, 5, 6, 7] rfl ?_
        exact w_wid (by omega) (by omega) (q_La_law_b1392 hnx hnK x5 hL h5 s237 hs hb he0)
      · cases hs
  · cases hs
set_option maxRecDepth 100000 in
set_option maxHeartbeats 4000000 in
theorem q_La_law_b1460 {C : Cx} {nx : Nat} (hnx : 102 ≤ nx) (hnK : KN ≤ nx) {Qr : Option Value → Hp → Prop} {Qx : String → Hp → Prop}  (x5 : Int) (hL : xL C ≤ 2048) (h5 : 0 ≤ x5 ∧ x5 < (xL C : Int)) (s : Sg) {o : ((Int × Sg) ⊕ (Sg))} (hs : La_law_b1460 (xL C) x5 s = some o) (hb : ∀ σ : Int × Sg, o = .inl σ → ww C M_L_law 17 601024 7293034 nx (Qr) (Qx) nx (3 * σ.1.toNat + 1000) (18 * σ.1.toNat + 100000) 28 [(0, .ref 1200), (1, .ref 0), (2, .ref 80), (3, .ref 100), (4, .ref 101), (5, vi σ.1)] [] (hp nx σ.2)) (he0 : ∀ ρ : Sg, o = .inr ρ → ww C M_L_law 17 601024 7293034 nx (Qr) (Qx) nx 8000 150000 2713 [] [] (hp nx ρ)) : ww C M_L_law 17 601024 7293034 nx (Qr) (Qx) nx (3 * x5.toNat + 1003) (18 * x5.toNat + 100018) 1460 [(0, .ref 1200), (1, .ref 0), (2, .ref 80), (3, .ref 100), (4, .ref 101), (5, vi x5)] [] (hp nx s) := by
  unfold La_law_b1460 at hs
  refine w_goto dL_law_1460 rfl ?_
  exact w_wid (by omega) (by omega) (q_La_law_b2707 hnx hnK x5 hL h5 s hs hb he0)
set_option maxRecDepth 100000 in
set_option maxHeartbeats 4000000 in
theorem q_La_law_b1395 {C : Cx} {nx : Nat} (hnx : 102 ≤ nx) (hnK : KN ≤ nx) {Qr : Option Value → Hp → Prop} {Qx : String → Hp → Prop}  (x5 : Int) (hL : xL C ≤ 2048) (h5 : 0 ≤ x5 ∧ x5 < (xL C : Int)) (s : Sg) {o : ((Int × Sg) ⊕ (Sg))} (hs : La_law_b1395 (xL C) x5 s = some o) (hb : ∀ σ : Int × Sg, o = .inl σ → ww C M_L_law 17 601024 7293034 nx (Qr) (Qx) nx (3 * σ.1.toNat + 1000) (18 * σ.1.toNat + 100000) 28 [(0, .ref 1200), (1, .ref 0), (2, .ref 80), (3, .ref 100), (4, .ref 101), (5, vi σ.1)] [] (hp nx σ.2)) (he0 : ∀ ρ : Sg, o = .inr ρ → ww C M_L_law 17 601024 7293034 nx (Qr) (Qx) nx 8000 150000 2713 [] [] (hp nx ρ)) : ww C M_L_law 17 601024 7293034 nx (Qr) (Qx) nx (3 * x5.toNat + 1000) (18 * x5.toNat + 100000) 1395 [(0, .ref 1200), (1, .ref 0), (2, .ref 80), (3, .ref 100), (4, .ref 101), (5, vi x5)] [] (hp nx s) := by
  unfold La_law_b1395 at hs
  refine w_aload_n 1 dL_law_1395 rfl rfl ?_
  refine w_aload_n 0 dL_law_1396 rfl rfl ?_
  refine w_iload 5 dL_law_1397 rfl ?_
  refine x_iconst dL_law_1399 ?_
  refine x_iadd dL_law_1400 ?_
  refine grd_e hs (fun hg244 hs => ?_)
  refine x_iald hg244 (Nat.le_trans hL (Nat.le_of_ble_eq_true rfl)) dL_law_1401 (Or.inr (List.mem_of_getElem? (i := 8) rfl)) ?_
  refine w_aload_n 0 dL_law_1402 rfl rfl ?_
  refine w_iload 5 dL_law_1403 rfl ?_
  refine x_iconst dL_law_1405 ?_
  refine x_iadd dL_law_1406 ?_
  refine grd_e hs (fun hg245 hs => ?_)
  refine x_iald hg245 (Nat.le_trans hL (Nat.le_of_ble_eq_true rfl)) dL_law_1407 (Or.inr (List.mem_of_getElem? (i := 8) rfl)) ?_
  refine w_aload_n 3 dL_law_1408 rfl rfl ?_
  refine x_SW_B M_L_through [.ref 0, vi (gi s 1200 (x5 + 1).toNat), vi (gi s 1200 (x5 + 2).toNat), .ref 100] [] (k2 := (3 * x5.toNat + 1003)) (n2 := (18 * x5.toNat + 100018)) hs rfl dL_law_1409 (lkL_205 _ rfl) (Nat.le_of_ble_eq_true rfl) (by omega) (by omega) (by omega) (by omega) (Nat.le_of_ble_eq_true rfl) (c_La_through hnx hnK (gi s 1200 (x5 + 1).toNat) (gi s 1200 (x5 + 2).toNat) s) (fun y246 s247 hy246 hs => ?_)
  refine w_istore (lv' := [(6, vi y246), (0, .ref 1200), (1, .ref 0), (2, .ref 80), (3, .ref 100), (4, .ref 101), (5, vi x5)]) dL_law_1412 (Nat.le_of_ble_eq_true rfl) rfl ?_
  refine w_aload_n 3 dL_law_1414 rfl rfl ?_
  refine w_aload_n 1 dL_law_1415 rfl rfl ?_
  refine w_iload 6 dL_law_1416 rfl ?_
  refine x_iconst dL_law_1418 ?_
  refine x_iadd dL_law_1419 ?_
  refine grd_e hs (fun hg248 hs => ?_)
  refine x_iald hg248 (Nat.le_trans hL (Nat.le_of_ble_eq_true rfl)) dL_law_1420 (Or.inr (List.mem_of_getElem? (i := 8) rfl)) ?_
  refine w_aload_n 1 dL_law_1421 rfl rfl ?_
  refine w_iload 6 dL_law_1422 rfl ?_
  refine x_iconst dL_law_1424 ?_
  refine x_iadd dL_law_1425 ?_
  refine grd_e hs (fun hg249 hs => ?_)
  refine x_iald hg249 (Nat.le_trans hL (Nat.le_of_ble_eq_true rfl)) dL_law_1426 (Or.inr (List.mem_of_getElem? (i := 8) rfl)) ?_
  refine x_V_B M_X12_through [vi (gi s247 1200 (x5 + 1).toNat), vi (gi s247 1200 (x5 + 2).toNat)] [] hs rfl dL_law_1427 (lkL_207 _ rfl) (lt_of hnx (Nat.le_of_ble_eq_true rfl)) rfl rfl (Nat.le_of_ble_eq_true rfl) (by omega) (by omega) (Nat.le_of_ble_eq_true rfl) (c_Mo_through (Nat.le_trans (Nat.le_of_ble_eq_true rfl) hnx) (gi s247 1200 (x5 + 1).toNat) (gi s247 1200 (x5 + 2).toNat) s247) (fun y250 s251 hy250 hs => ?_)
  refine w_istore (lv' := [(7, vi y250), (6, vi y246), (0, .ref 1200), (1, .ref 0), (2, .ref 80), (3, .ref 100), (4, .ref 101), (5, vi x5)]) dL_law_1430 (Nat.le_of_ble_eq_true rfl) rfl ?_
  refine w_aload_n 4 dL_law_1432 rfl rfl ?_
  refine x_V_I M_X12_thrown [] [] hs rfl dL_law_1433 (lkL_150 _ rfl) (lt_of hnx (Nat.le_of_ble_eq_true rfl)) rfl rfl (Nat.le_of_ble_eq_true rfl) (by omega) (by omega) (Nat.le_of_ble_eq_true rfl) (c_Mo_thrown (Nat.le_trans (Nat.le_of_ble_eq_true rfl) hnx) s251) (fun y252 hy252 hs => ?_)
  refine w_iload 1 dL_law_1436 rfl ?_
  refine x_icmpeq hs dL_law_1438 rfl (fun hs => ?_) (fun hs => ?_)
  · refine w_iload 1 dL_law_1443 rfl ?_
    refine x_ifne hs dL_law_1445 rfl (fun hs => ?_) (fun hs => ?_)
    · refine w_lv (lv' := [(0, .ref 1200), (1, .ref 0), (2, .ref 80), (3, .ref 100), (4, .ref 101), (5, vi x5)]) [2, 3, 4, 5, 6, 7] rfl ?_
      exact w_wid (by omega) (by omega) (q_La_law_b1460 hnx hnK x5 hL h5 s251 hs hb he0)
    · refine w_aload_n 5 dL_law_1448 rfl rfl ?_
      refine x_iconst dL_law_1449 ?_
      refine grd_e hs (fun hg253 hs => ?_)
      refine x_lald ⟨by decide, by decide⟩ (Nat.le_of_ble_eq_true rfl) dL_law_1450 rfl (lt_of hnx (Nat.le_of_ble_eq_true rfl)) ?_
      refine w_iload 0 dL_law_1451 rfl ?_
      refine grd_e hs (fun hg254 hs => ?_)
      refine x_i2l dL_law_1453 hg254 ?_
      refine grd_e hs (fun hg255 hs => ?_)
      refine x_lcmp dL_law_1454 hg255.1 hg255.2 ?_
      refine x_ifeq hs dL_law_1455 rfl (fun hs => ?_) (fun hs => ?_)
      · refine w_lv (lv' := [(0, .ref 1200), (1, .ref 0), (2, .ref 80), (3, .ref 100), (4, .ref 101), (5, vi x5)]) [2, 3, 4, 5, 6, 7] rfl ?_
        exact w_wid (by omega) (by omega) (q_La_law_b1460 hnx hnK x5 hL h5 s251 hs hb he0)
      · cases hs
  · cases hs
set_option maxRecDepth 100000 in
set_option maxHeartbeats 4000000 in
theorem q_La_law_b1516 {C : Cx} {nx : Nat} (hnx : 102 ≤ nx) (hnK : KN ≤ nx) {Qr : Option Value → Hp → Prop} {Qx : String → Hp → Prop}  (x5 : Int) (hL : xL C ≤ 2048) (h5 : 0 ≤ x5 ∧ x5 < (xL C : Int)) (s : Sg) {o : ((Int × Sg) ⊕ (Sg))} (hs : La_law_b1516 (xL C) x5 s = some o) (hb : ∀ σ : Int × Sg, o = .inl σ → ww C M_L_law 17 601024 7293034 nx (Qr) (Qx) nx (3 * σ.1.toNat + 1000) (18 * σ.1.toNat + 100000) 28 [(0, .ref 1200), (1, .ref 0), (2, .ref 80), (3, .ref 100), (4, .ref 101), (5, vi σ.1)] [] (hp nx σ.2)) (he0 : ∀ ρ : Sg, o = .inr ρ → ww C M_L_law 17 601024 7293034 nx (Qr) (Qx) nx 8000 150000 2713 [] [] (hp nx ρ)) : ww C M_L_law 17 601024 7293034 nx (Qr) (Qx) nx (3 * x5.toNat + 1003) (18 * x5.toNat + 100018) 1516 [(0, .ref 1200), (1, .ref 0), (2, .ref 80), (3, .ref 100), (4, .ref 101), (5, vi x5)] [] (hp nx s) := by
  unfold La_law_b1516 at hs
  refine w_goto dL_law_1516 rfl ?_
  exact w_wid (by omega) (by omega) (q_La_law_b2707 hnx hnK x5 hL h5 s hs hb he0)
set_option maxRecDepth 100000 in
set_option maxHeartbeats 4000000 in
theorem q_La_law_b1463 {C : Cx} {nx : Nat} (hnx : 102 ≤ nx) (hnK : KN ≤ nx) {Qr : Option Value → Hp → Prop} {Qx : String → Hp → Prop}  (x5 : Int) (hL : xL C ≤ 2048) (h5 : 0 ≤ x5 ∧ x5 < (xL C : Int)) (s : Sg) {o : ((Int × Sg) ⊕ (Sg))} (hs : La_law_b1463 (xL C) x5 s = some o) (hb : ∀ σ : Int × Sg, o = .inl σ → ww C M_L_law 17 601024 7293034 nx (Qr) (Qx) nx (3 * σ.1.toNat + 1000) (18 * σ.1.toNat + 100000) 28 [(0, .ref 1200), (1, .ref 0), (2, .ref 80), (3, .ref 100), (4, .ref 101), (5, vi σ.1)] [] (hp nx σ.2)) (he0 : ∀ ρ : Sg, o = .inr ρ → ww C M_L_law 17 601024 7293034 nx (Qr) (Qx) nx 8000 150000 2713 [] [] (hp nx ρ)) : ww C M_L_law 17 601024 7293034 nx (Qr) (Qx) nx (3 * x5.toNat + 1000) (18 * x5.toNat + 100000) 1463 [(0, .ref 1200), (1, .ref 0), (2, .ref 80), (3, .ref 100), (4, .ref 101), (5, vi x5)] [] (hp nx s) := by
  unfold La_law_b1463 at hs
  refine w_aload_n 1 dL_law_1463 rfl rfl ?_
  refine w_aload_n 0 dL_law_1464 rfl rfl ?_
  refine w_iload 5 dL_law_1465 rfl ?_
  refine x_iconst dL_law_1467 ?_
  refine x_iadd dL_law_1468 ?_
  refine grd_e hs (fun hg258 hs => ?_)
  refine x_iald hg258 (Nat.le_trans hL (Nat.le_of_ble_eq_true rfl)) dL_law_1469 (Or.inr (List.mem_of_getElem? (i := 8) rfl)) ?_
  refine w_aload_n 3 dL_law_1470 rfl rfl ?_
  refine x_SW_B M_L_useful [.ref 0, vi (gi s 1200 (x5 + 1).toNat), .ref 100] [] (k2 := (3 * x5.toNat + 1003)) (n2 := (18 * x5.toNat + 100018)) hs rfl dL_law_1471 (lkL_208 _ rfl) (Nat.le_of_ble_eq_true rfl) (by omega) (by omega) (by omega) (by omega) (Nat.le_of_ble_eq_true rfl) (c_La_useful hnx hnK (gi s 1200 (x5 + 1).toNat) s) (fun y259 s260 hy259 hs => ?_)
  refine w_istore (lv' := [(6, vi y259), (0, .ref 1200), (1, .ref 0), (2, .ref 80), (3, .ref 100), (4, .ref 101), (5, vi x5)]) dL_law_1474 (Nat.le_of_ble_eq_true rfl) rfl ?_
  refine w_aload_n 3 dL_law_1476 rfl rfl ?_
  refine w_aload_n 1 dL_law_1477 rfl rfl ?_
  refine w_iload 6 dL_law_1478 rfl ?_
  refine x_iconst dL_law_1480 ?_
  refine x_iadd dL_law_1481 ?_
  refine grd_e hs (fun hg261 hs => ?_)
  refine x_iald hg261 (Nat.le_trans hL (Nat.le_of_ble_eq_true rfl)) dL_law_1482 (Or.inr (List.mem_of_getElem? (i := 8) rfl)) ?_
  refine x_V_B M_X12_useful [vi (gi s260 1200 (x5 + 1).toNat)] [] hs rfl dL_law_1483 (lkL_210 _ rfl) (lt_of hnx (Nat.le_of_ble_eq_true rfl)) rfl rfl (Nat.le_of_ble_eq_true rfl) (by omega) (by omega) (Nat.le_of_ble_eq_true rfl) (c_Mo_useful (Nat.le_trans (Nat.le_of_ble_eq_true rfl) hnx) (gi s260 1200 (x5 + 1).toNat) s260) (fun y262 s263 hy262 hs => ?_)
  refine w_istore (lv' := [(7, vi y262), (6, vi y259), (0, .ref 1200), (1, .ref 0), (2, .ref 80), (3, .ref 100), (4, .ref 101), (5, vi x5)]) dL_law_1486 (Nat.le_of_ble_eq_true rfl) rfl ?_
  refine w_aload_n 4 dL_law_1488 rfl rfl ?_
  refine x_V_I M_X12_thrown [] [] hs rfl dL_law_1489 (lkL_150 _ rfl) (lt_of hnx (Nat.le_of_ble_eq_true rfl)) rfl rfl (Nat.le_of_ble_eq_true rfl) (by omega) (by omega) (Nat.le_of_ble_eq_true rfl) (c_Mo_thrown (Nat.le_trans (Nat.le_of_ble_eq_true rfl) hnx) s263) (fun y264 hy264 hs => ?_)
  refine w_iload 1 dL_law_1492 rfl ?_
  refine x_icmpeq hs dL_law_1494 rfl (fun hs => ?_) (fun hs => ?_)
  · refine w_iload 1 dL_law_1499 rfl ?_
    refine x_ifne hs dL_law_1501 rfl (fun hs => ?_) (fun hs => ?_)
    · refine w_lv (lv' := [(0, .ref 1200), (1, .ref 0), (2, .ref 80), (3, .ref 100), (4, .ref 101), (5, vi x5)]) [2, 3, 4, 5, 6, 7] rfl ?_
      exact w_wid (by omega) (by omega) (q_La_law_b1516 hnx hnK x5 hL h5 s263 hs hb he0)
    · refine w_aload_n 5 dL_law_1504 rfl rfl ?_
      refine x_iconst dL_law_1505 ?_
      refine grd_e hs (fun hg265 hs => ?_)
      refine x_lald ⟨by decide, by decide⟩ (Nat.le_of_ble_eq_true rfl) dL_law_1506 rfl (lt_of hnx (Nat.le_of_ble_eq_true rfl)) ?_
      refine w_iload 0 dL_law_1507 rfl ?_
      refine grd_e hs (fun hg266 hs => ?_)
      refine x_i2l dL_law_1509 hg266 ?_
      refine grd_e hs (fun hg267 hs => ?_)
      refine x_lcmp dL_law_1510 hg267.1 hg267.2 ?_
      refine x_ifeq hs dL_law_1511 rfl (fun hs => ?_) (fun hs => ?_)
      · refine w_lv (lv' := [(0, .ref 1200), (1, .ref 0), (2, .ref 80), (3, .ref 100), (4, .ref 101), (5, vi x5)]) [2, 3, 4, 5, 6, 7] rfl ?_
        exact w_wid (by omega) (by omega) (q_La_law_b1516 hnx hnK x5 hL h5 s263 hs hb he0)
      · cases hs
  · cases hs
set_option maxRecDepth 100000 in
set_option maxHeartbeats 4000000 in
theorem q_La_law_b1519 {C : Cx} {nx : Nat} (hnx : 102 ≤ nx) (hnK : KN ≤ nx) {Qr : Option Value → Hp → Prop} {Qx : String → Hp → Prop}  (x5 : Int) (hL : xL C ≤ 2048) (h5 : 0 ≤ x5 ∧ x5 < (xL C : Int)) (s : Sg) {o : ((Int × Sg) ⊕ (Sg))} (hs : La_law_b1519 (xL C) x5 s = some o) (hb : ∀ σ : Int × Sg, o = .inl σ → ww C M_L_law 17 601024 7293034 nx (Qr) (Qx) nx (3 * σ.1.toNat + 1000) (18 * σ.1.toNat + 100000) 28 [(0, .ref 1200), (1, .ref 0), (2, .ref 80), (3, .ref 100), (4, .ref 101), (5, vi σ.1)] [] (hp nx σ.2)) (he0 : ∀ ρ : Sg, o = .inr ρ → ww C M_L_law 17 601024 7293034 nx (Qr) (Qx) nx 8000 150000 2713 [] [] (hp nx ρ)) : ww C M_L_law 17 601024 7293034 nx (Qr) (Qx) nx (3 * x5.toNat + 1000) (18 * x5.toNat + 100000) 1519 [(0, .ref 1200), (1, .ref 0), (2, .ref 80), (3, .ref 100), (4, .ref 101), (5, vi x5)] [] (hp nx s) := by
  unfold La_law_b1519 at hs
  refine w_aload_n 1 dL_law_1519 rfl rfl ?_
  refine x_V_B M_X11_shared [] [] hs rfl dL_law_1520 (lkL_211 _ rfl) (lt_of hnx (Nat.le_of_ble_eq_true rfl)) rfl rfl (Nat.le_of_ble_eq_true rfl) (by omega) (by omega) (Nat.le_of_ble_eq_true rfl) (c_Hx_shared (Nat.le_trans (Nat.le_of_ble_eq_true rfl) hnx) s) (fun y270 s271 hy270 hs => ?_)
  refine w_aload_n 2 dL_law_1523 rfl rfl ?_
  refine x_V_B M_X12_shared [] [vi y270] hs rfl dL_law_1524 (lkL_214 _ rfl) (lt_of hnx (Nat.le_of_ble_eq_true rfl)) rfl rfl (Nat.le_of_ble_eq_true rfl) (by omega) (by omega) (Nat.le_of_ble_eq_true rfl) (c_Mo_shared (Nat.le_trans (Nat.le_of_ble_eq_true rfl) hnx) s271) (fun y272 s273 hy272 hs => ?_)
  refine x_icmpeq hs dL_law_1527 rfl (fun hs => ?_) (fun hs => ?_)
  · exact w_wid (by omega) (by omega) (q_La_law_b2707 hnx hnK x5 hL h5 s273 hs hb he0)
  · cases hs
set_option maxRecDepth 100000 in
set_option maxHeartbeats 4000000 in
theorem q_La_law_b1609 {C : Cx} {nx : Nat} (hnx : 102 ≤ nx) (hnK : KN ≤ nx) {Qr : Option Value → Hp → Prop} {Qx : String → Hp → Prop}  (x5 : Int) (hL : xL C ≤ 2048) (h5 : 0 ≤ x5 ∧ x5 < (xL C : Int)) (s : Sg) {o : ((Int × Sg) ⊕ (Sg))} (hs : La_law_b1609 (xL C) x5 s = some o) (hb : ∀ σ : Int × Sg, o = .inl σ → ww C M_L_law 17 601024 7293034 nx (Qr) (Qx) nx (3 * σ.1.toNat + 1000) (18 * σ.1.toNat + 100000) 28 [(0, .ref 1200), (1, .ref 0), (2, .ref 80), (3, .ref 100), (4, .ref 101), (5, vi σ.1)] [] (hp nx σ.2)) (he0 : ∀ ρ : Sg, o = .inr ρ → ww C M_L_law 17 601024 7293034 nx (Qr) (Qx) nx 8000 150000 2713 [] [] (hp nx ρ)) : ww C M_L_law 17 601024 7293034 nx (Qr) (Qx) nx (3 * x5.toNat + 1003) (18 * x5.toNat + 100018) 1609 [(0, .ref 1200), (1, .ref 0), (2, .ref 80), (3, .ref 100), (4, .ref 101), (5, vi x5)] [] (hp nx s) := by
  unfold La_law_b1609 at hs
  refine w_goto dL_law_1609 rfl ?_
  exact w_wid (by omega) (by omega) (q_La_law_b2707 hnx hnK x5 hL h5 s hs hb he0)
set_option maxRecDepth 100000 in
set_option maxHeartbeats 4000000 in
theorem q_La_law_b1532 {C : Cx} {nx : Nat} (hnx : 102 ≤ nx) (hnK : KN ≤ nx) {Qr : Option Value → Hp → Prop} {Qx : String → Hp → Prop}  (x5 : Int) (hL : xL C ≤ 2048) (h5 : 0 ≤ x5 ∧ x5 < (xL C : Int)) (s : Sg) {o : ((Int × Sg) ⊕ (Sg))} (hs : La_law_b1532 (xL C) x5 s = some o) (hb : ∀ σ : Int × Sg, o = .inl σ → ww C M_L_law 17 601024 7293034 nx (Qr) (Qx) nx (3 * σ.1.toNat + 1000) (18 * σ.1.toNat + 100000) 28 [(0, .ref 1200), (1, .ref 0), (2, .ref 80), (3, .ref 100), (4, .ref 101), (5, vi σ.1)] [] (hp nx σ.2)) (he0 : ∀ ρ : Sg, o = .inr ρ → ww C M_L_law 17 601024 7293034 nx (Qr) (Qx) nx 8000 150000 2713 [] [] (hp nx ρ)) : ww C M_L_law 17 601024 7293034 nx (Qr) (Qx) nx (3 * x5.toNat + 1000) (18 * x5.toNat + 100000) 1532 [(0, .ref 1200), (1, .ref 0), (2, .ref 80), (3, .ref 100), (4, .ref 101), (5, vi x5)] [] (hp nx s) := by
  unfold La_law_b1532 at hs
  refine w_aload_n 1 dL_law_1532 rfl rfl ?_
  refine w_aload_n 0 dL_law_1533 rfl rfl ?_
  refine w_iload 5 dL_law_1534 rfl ?_
  refine x_iconst dL_law_1536 ?_
  refine x_iadd dL_law_1537 ?_
  refine grd_e hs (fun hg276 hs => ?_)
  refine x_iald hg276 (Nat.le_trans hL (Nat.le_of_ble_eq_true rfl)) dL_law_1538 (Or.inr (List.mem_of_getElem? (i := 8) rfl)) ?_
  refine w_aload_n 0 dL_law_1539 rfl rfl ?_
  refine w_iload 5 dL_law_1540 rfl ?_
  refine x_iconst dL_law_1542 ?_
  refine x_iadd dL_law_1543 ?_
  refine grd_e hs (fun hg277 hs => ?_)
  refine x_iald hg277 (Nat.le_trans hL (Nat.le_of_ble_eq_true rfl)) dL_law_1544 (Or.inr (List.mem_of_getElem? (i := 8) rfl)) ?_
  refine w_aload_n 0 dL_law_1545 rfl rfl ?_
  refine w_iload 5 dL_law_1546 rfl ?_
  refine x_iconst dL_law_1548 ?_
  refine x_iadd dL_law_1549 ?_
  refine grd_e hs (fun hg278 hs => ?_)
  refine x_iald hg278 (Nat.le_trans hL (Nat.le_of_ble_eq_true rfl)) dL_law_1550 (Or.inr (List.mem_of_getElem? (i := 8) rfl)) ?_
  refine w_aload_n 3 dL_law_1551 rfl rfl ?_
  refine x_SW_B M_L_potential [.ref 0, vi (gi s 1200 (x5 + 1).toNat), vi (gi s 1200 (x5 + 2).toNat), vi (gi s 1200 (x5 + 3).toNat), .ref 100] [] (k2 := (3 * x5.toNat + 1003)) (n2 := (18 * x5.toNat + 100018)) hs rfl dL_law_1552 (lkL_215 _ rfl) (Nat.le_of_ble_eq_true rfl) (by omega) (by omega) (by omega) (by omega) (Nat.le_of_ble_eq_true rfl) (c_La_potential hnx hnK (gi s 1200 (x5 + 1).toNat) (gi s 1200 (x5 + 2).toNat) (gi s 1200 (x5 + 3).toNat) s) (fun y279 s280 hy279 hs => ?_)
  refine w_istore (lv' := [(6, vi y279), (0, .ref 1200), (1, .ref 0), (2, .ref 80), (3, .ref 100), (4, .ref 101), (5, vi x5)]) dL_law_1555 (Nat.le_of_ble_eq_true rfl) rfl ?_
  refine w_aload_n 3 dL_law_1557 rfl rfl ?_
  refine w_aload_n 1 dL_law_1558 rfl rfl ?_
  refine w_iload 6 dL_law_1559 rfl ?_
  refine x_iconst dL_law_1561 ?_
  refine x_iadd dL_law_1562 ?_
  refine grd_e hs (fun hg281 hs => ?_)
  refine x_iald hg281 (Nat.le_trans hL (Nat.le_of_ble_eq_true rfl)) dL_law_1563 (Or.inr (List.mem_of_getElem? (i := 8) rfl)) ?_
  refine w_aload_n 1 dL_law_1564 rfl rfl ?_
  refine w_iload 6 dL_law_1565 rfl ?_
  refine x_iconst dL_law_1567 ?_
  refine x_iadd dL_law_1568 ?_
  refine grd_e hs (fun hg282 hs => ?_)
  refine x_iald hg282 (Nat.le_trans hL (Nat.le_of_ble_eq_true rfl)) dL_law_1569 (Or.inr (List.mem_of_getElem? (i := 8) rfl)) ?_
  refine w_aload_n 1 dL_law_1570 rfl rfl ?_
  refine w_iload 6 dL_law_1571 rfl ?_
  refine x_iconst dL_law_1573 ?_
  refine x_iadd dL_law_1574 ?_
  refine grd_e hs (fun hg283 hs => ?_)
  refine x_iald hg283 (Nat.le_trans hL (Nat.le_of_ble_eq_true rfl)) dL_law_1575 (Or.inr (List.mem_of_getElem? (i := 8) rfl)) ?_
  refine x_V_B M_X12_potential [vi (gi s280 1200 (x5 + 1).toNat), vi (gi s280 1200 (x5 + 2).toNat), vi (gi s280 1200 (x5 + 3).toNat)] [] hs rfl dL_law_1576 (lkL_217 _ rfl) (lt_of hnx (Nat.le_of_ble_eq_true rfl)) rfl rfl (Nat.le_of_ble_eq_true rfl) (by omega) (by omega) (Nat.le_of_ble_eq_true rfl) (c_Mo_potential (Nat.le_trans (Nat.le_of_ble_eq_true rfl) hnx) (gi s280 1200 (x5 + 1).toNat) (gi s280 1200 (x5 + 2).toNat) (gi s280 1200 (x5 + 3).toNat) s280) (fun y284 s285 hy284 hs => ?_)
  refine w_istore (lv' := [(7, vi y284), (6, vi y279), (0, .ref 1200), (1, .ref 0), (2, .ref 80), (3, .ref 100), (4, .ref 101), (5, vi x5)]) dL_law_1579 (Nat.le_of_ble_eq_true rfl) rfl ?_
  refine w_aload_n 4 dL_law_1581 rfl rfl ?_
  refine x_V_I M_X12_thrown [] [] hs rfl dL_law_1582 (lkL_150 _ rfl) (lt_of hnx (Nat.le_of_ble_eq_true rfl)) rfl rfl (Nat.le_of_ble_eq_true rfl) (by omega) (by omega) (Nat.le_of_ble_eq_true rfl) (c_Mo_thrown (Nat.le_trans (Nat.le_of_ble_eq_true rfl) hnx) s285) (fun y286 hy286 hs => ?_)
  refine w_iload 1 dL_law_1585 rfl ?_
  refine x_icmpeq hs dL_law_1587 rfl (fun hs => ?_) (fun hs => ?_)
  · refine w_iload 1 dL_law_1592 rfl ?_
    refine x_ifne hs dL_law_1594 rfl (fun hs => ?_) (fun hs => ?_)
    · refine w_lv (lv' := [(0, .ref 1200), (1, .ref 0), (2, .ref 80), (3, .ref 100), (4, .ref 101), (5, vi x5)]) [2, 3, 4, 5, 6, 7] rfl ?_
      exact w_wid (by omega) (by omega) (q_La_law_b1609 hnx hnK x5 hL h5 s285 hs hb he0)
    · refine w_aload_n 5 dL_law_1597 rfl rfl ?_
      refine x_iconst dL_law_1598 ?_
      refine grd_e hs (fun hg287 hs => ?_)
      refine x_lald ⟨by decide, by decide⟩ (Nat.le_of_ble_eq_true rfl) dL_law_1599 rfl (lt_of hnx (Nat.le_of_ble_eq_true rfl)) ?_
      refine w_iload 0 dL_law_1600 rfl ?_
      refine grd_e hs (fun hg288 hs => ?_)
      refine x_i2l dL_law_1602 hg288 ?_
      refine grd_e hs (fun hg289 hs => ?_)
      refine x_lcmp dL_law_1603 hg289.1 hg289.2 ?_
      refine x_ifeq hs dL_law_1604 rfl (fun hs => ?_) (fun hs => ?_)
      · refine w_lv (lv' := [(0, .ref 1200), (1, .ref 0), (2, .ref 80), (3, .ref 100), (4, .ref 101), (5, vi x5)]) [2, 3, 4, 5, 6, 7] rfl ?_
        exact w_wid (by omega) (by omega) (q_La_law_b1609 hnx hnK x5 hL h5 s285 hs hb he0)
      · cases hs
  · cases hs
set_option maxRecDepth 100000 in
set_option maxHeartbeats 4000000 in
theorem q_La_law_b1677 {C : Cx} {nx : Nat} (hnx : 102 ≤ nx) (hnK : KN ≤ nx) {Qr : Option Value → Hp → Prop} {Qx : String → Hp → Prop}  (x5 : Int) (hL : xL C ≤ 2048) (h5 : 0 ≤ x5 ∧ x5 < (xL C : Int)) (s : Sg) {o : ((Int × Sg) ⊕ (Sg))} (hs : La_law_b1677 (xL C) x5 s = some o) (hb : ∀ σ : Int × Sg, o = .inl σ → ww C M_L_law 17 601024 7293034 nx (Qr) (Qx) nx (3 * σ.1.toNat + 1000) (18 * σ.1.toNat + 100000) 28 [(0, .ref 1200), (1, .ref 0), (2, .ref 80), (3, .ref 100), (4, .ref 101), (5, vi σ.1)] [] (hp nx σ.2)) (he0 : ∀ ρ : Sg, o = .inr ρ → ww C M_L_law 17 601024 7293034 nx (Qr) (Qx) nx 8000 150000 2713 [] [] (hp nx ρ)) : ww C M_L_law 17 601024 7293034 nx (Qr) (Qx) nx (3 * x5.toNat + 1003) (18 * x5.toNat + 100018) 1677 [(0, .ref 1200), (1, .ref 0), (2, .ref 80), (3, .ref 100), (4, .ref 101), (5, vi x5)] [] (hp nx s) := by
  unfold La_law_b1677 at hs
  refine w_goto dL_law_1677 rfl ?_
  exact w_wid (by omega) (by omega) (q_La_law_b2707 hnx hnK x5 hL h5 s hs hb he0)
set_option maxRecDepth 100000 in
set_option maxHeartbeats 4000000 in
theorem q_La_law_b1612 {C : Cx} {nx : Nat} (hnx : 102 ≤ nx) (hnK : KN ≤ nx) {Qr : Option Value → Hp → Prop} {Qx : String → Hp → Prop}  (x5 : Int) (hL : xL C ≤ 2048) (h5 : 0 ≤ x5 ∧ x5 < (xL C : Int)) (s : Sg) {o : ((Int × Sg) ⊕ (Sg))} (hs : La_law_b1612 (xL C) x5 s = some o) (hb : ∀ σ : Int × Sg, o = .inl σ → ww C M_L_law 17 601024 7293034 nx (Qr) (Qx) nx (3 * σ.1.toNat + 1000) (18 * σ.1.toNat + 100000) 28 [(0, .ref 1200), (1, .ref 0), (2, .ref 80), (3, .ref 100), (4, .ref 101), (5, vi σ.1)] [] (hp nx σ.2)) (he0 : ∀ ρ : Sg, o = .inr ρ → ww C M_L_law 17 601024 7293034 nx (Qr) (Qx) nx 8000 150000 2713 [] [] (hp nx ρ)) : ww C M_L_law 17 601024 7293034 nx (Qr) (Qx) nx (3 * x5.toNat + 1000) (18 * x5.toNat + 100000) 1612 [(0, .ref 1200), (1, .ref 0), (2, .ref 80), (3, .ref 100), (4, .ref 101), (5, vi x5)] [] (hp nx s) := by
  unfold La_law_b1612 at hs
  refine w_aload_n 1 dL_law_1612 rfl rfl ?_
  refine w_aload_n 0 dL_law_1613 rfl rfl ?_
  refine w_iload 5 dL_law_1614 rfl ?_
  refine x_iconst dL_law_1616 ?_
  refine x_iadd dL_law_1617 ?_
  refine grd_e hs (fun hg292 hs => ?_)
  refine x_iald hg292 (Nat.le_trans hL (Nat.le_of_ble_eq_true rfl)) dL_law_1618 (Or.inr (List.mem_of_getElem? (i := 8) rfl)) ?_
  refine w_aload_n 0 dL_law_1619 rfl rfl ?_
  refine w_iload 5 dL_law_1620 rfl ?_
  refine x_iconst dL_law_1622 ?_
  refine x_iadd dL_law_1623 ?_
  refine grd_e hs (fun hg293 hs => ?_)
  refine x_iald hg293 (Nat.le_trans hL (Nat.le_of_ble_eq_true rfl)) dL_law_1624 (Or.inr (List.mem_of_getElem? (i := 8) rfl)) ?_
  refine w_aload_n 3 dL_law_1625 rfl rfl ?_
  refine x_SW_B M_L_current [.ref 0, vi (gi s 1200 (x5 + 1).toNat), vi (gi s 1200 (x5 + 2).toNat), .ref 100] [] (k2 := (3 * x5.toNat + 1003)) (n2 := (18 * x5.toNat + 100018)) hs rfl dL_law_1626 (lkL_218 _ rfl) (Nat.le_of_ble_eq_true rfl) (by omega) (by omega) (by omega) (by omega) (Nat.le_of_ble_eq_true rfl) (c_La_current hnx hnK (gi s 1200 (x5 + 1).toNat) (gi s 1200 (x5 + 2).toNat) s) (fun y294 s295 hy294 hs => ?_)
  refine w_istore (lv' := [(6, vi y294), (0, .ref 1200), (1, .ref 0), (2, .ref 80), (3, .ref 100), (4, .ref 101), (5, vi x5)]) dL_law_1629 (Nat.le_of_ble_eq_true rfl) rfl ?_
  refine w_aload_n 3 dL_law_1631 rfl rfl ?_
  refine w_aload_n 1 dL_law_1632 rfl rfl ?_
  refine w_iload 6 dL_law_1633 rfl ?_
  refine x_iconst dL_law_1635 ?_
  refine x_iadd dL_law_1636 ?_
  refine grd_e hs (fun hg296 hs => ?_)
  refine x_iald hg296 (Nat.le_trans hL (Nat.le_of_ble_eq_true rfl)) dL_law_1637 (Or.inr (List.mem_of_getElem? (i := 8) rfl)) ?_
  refine w_aload_n 1 dL_law_1638 rfl rfl ?_
  refine w_iload 6 dL_law_1639 rfl ?_
  refine x_iconst dL_law_1641 ?_
  refine x_iadd dL_law_1642 ?_
  refine grd_e hs (fun hg297 hs => ?_)
  refine x_iald hg297 (Nat.le_trans hL (Nat.le_of_ble_eq_true rfl)) dL_law_1643 (Or.inr (List.mem_of_getElem? (i := 8) rfl)) ?_
  refine x_V_B M_X12_current [vi (gi s295 1200 (x5 + 1).toNat), vi (gi s295 1200 (x5 + 2).toNat)] [] hs rfl dL_law_1644 (lkL_220 _ rfl) (lt_of hnx (Nat.le_of_ble_eq_true rfl)) rfl rfl (Nat.le_of_ble_eq_true rfl) (by omega) (by omega) (Nat.le_of_ble_eq_true rfl) (c_Mo_current (Nat.le_trans (Nat.le_of_ble_eq_true rfl) hnx) (gi s295 1200 (x5 + 1).toNat) (gi s295 1200 (x5 + 2).toNat) s295) (fun y298 s299 hy298 hs => ?_)
  refine w_istore (lv' := [(7, vi y298), (6, vi y294), (0, .ref 1200), (1, .ref 0), (2, .ref 80), (3, .ref 100), (4, .ref 101), (5, vi x5)]) dL_law_1647 (Nat.le_of_ble_eq_true rfl) rfl ?_
  refine w_aload_n 4 dL_law_1649 rfl rfl ?_
  refine x_V_I M_X12_thrown [] [] hs rfl dL_law_1650 (lkL_150 _ rfl) (lt_of hnx (Nat.le_of_ble_eq_true rfl)) rfl rfl (Nat.le_of_ble_eq_true rfl) (by omega) (by omega) (Nat.le_of_ble_eq_true rfl) (c_Mo_thrown (Nat.le_trans (Nat.le_of_ble_eq_true rfl) hnx) s299) (fun y300 hy300 hs => ?_)
  refine w_iload 1 dL_law_1653 rfl ?_
  refine x_icmpeq hs dL_law_1655 rfl (fun hs => ?_) (fun hs => ?_)
  · refine w_iload 1 dL_law_1660 rfl ?_
    refine x_ifne hs dL_law_1662 rfl (fun hs => ?_) (fun hs => ?_)
    · refine w_lv (lv' := [(0, .ref 1200), (1, .ref 0), (2, .ref 80), (3, .ref 100), (4, .ref 101), (5, vi x5)]) [2, 3, 4, 5, 6, 7] rfl ?_
      exact w_wid (by omega) (by omega) (q_La_law_b1677 hnx hnK x5 hL h5 s299 hs hb he0)
    · refine w_aload_n 5 dL_law_1665 rfl rfl ?_
      refine x_iconst dL_law_1666 ?_
      refine grd_e hs (fun hg301 hs => ?_)
      refine x_lald ⟨by decide, by decide⟩ (Nat.le_of_ble_eq_true rfl) dL_law_1667 rfl (lt_of hnx (Nat.le_of_ble_eq_true rfl)) ?_
      refine w_iload 0 dL_law_1668 rfl ?_
      refine grd_e hs (fun hg302 hs => ?_)
      refine x_i2l dL_law_1670 hg302 ?_
      refine grd_e hs (fun hg303 hs => ?_)
      refine x_lcmp dL_law_1671 hg303.1 hg303.2 ?_
      refine x_ifeq hs dL_law_1672 rfl (fun hs => ?_) (fun hs => ?_)
      · refine w_lv (lv' := [(0, .ref 1200), (1, .ref 0), (2, .ref 80), (3, .ref 100), (4, .ref 101), (5, vi x5)]) [2, 3, 4, 5, 6, 7] rfl ?_
        exact w_wid (by omega) (by omega) (q_La_law_b1677 hnx hnK x5 hL h5 s299 hs hb he0)
      · cases hs
  · cases hs
set_option maxRecDepth 100000 in
set_option maxHeartbeats 4000000 in
theorem q_La_law_b1767 {C : Cx} {nx : Nat} (hnx : 102 ≤ nx) (hnK : KN ≤ nx) {Qr : Option Value → Hp → Prop} {Qx : String → Hp → Prop}  (x5 : Int) (hL : xL C ≤ 2048) (h5 : 0 ≤ x5 ∧ x5 < (xL C : Int)) (s : Sg) {o : ((Int × Sg) ⊕ (Sg))} (hs : La_law_b1767 (xL C) x5 s = some o) (hb : ∀ σ : Int × Sg, o = .inl σ → ww C M_L_law 17 601024 7293034 nx (Qr) (Qx) nx (3 * σ.1.toNat + 1000) (18 * σ.1.toNat + 100000) 28 [(0, .ref 1200), (1, .ref 0), (2, .ref 80), (3, .ref 100), (4, .ref 101), (5, vi σ.1)] [] (hp nx σ.2)) (he0 : ∀ ρ : Sg, o = .inr ρ → ww C M_L_law 17 601024 7293034 nx (Qr) (Qx) nx 8000 150000 2713 [] [] (hp nx ρ)) : ww C M_L_law 17 601024 7293034 nx (Qr) (Qx) nx (3 * x5.toNat + 1003) (18 * x5.toNat + 100018) 1767 [(0, .ref 1200), (1, .ref 0), (2, .ref 80), (3, .ref 100), (4, .ref 101), (5, vi x5)] [] (hp nx s) := by
  unfold La_law_b1767 at hs
  refine w_goto dL_law_1767 rfl ?_
  exact w_wid (by omega) (by omega) (q_La_law_b2707 hnx hnK x5 hL h5 s hs hb he0)
set_option maxRecDepth 100000 in
set_option maxHeartbeats 4000000 in
theorem q_La_law_b1680 {C : Cx} {nx : Nat} (hnx : 102 ≤ nx) (hnK : KN ≤ nx) {Qr : Option Value → Hp → Prop} {Qx : String → Hp → Prop}  (x5 : Int) (hL : xL C ≤ 2048) (h5 : 0 ≤ x5 ∧ x5 < (xL C : Int)) (s : Sg) {o : ((Int × Sg) ⊕ (Sg))} (hs : La_law_b1680 (xL C) x5 s = some o) (hb : ∀ σ : Int × Sg, o = .inl σ → ww C M_L_law 17 601024 7293034 nx (Qr) (Qx) nx (3 * σ.1.toNat + 1000) (18 * σ.1.toNat + 100000) 28 [(0, .ref 1200), (1, .ref 0), (2, .ref 80), (3, .ref 100), (4, .ref 101), (5, vi σ.1)] [] (hp nx σ.2)) (he0 : ∀ ρ : Sg, o = .inr ρ → ww C M_L_law 17 601024 7293034 nx (Qr) (Qx) nx 8000 150000 2713 [] [] (hp nx ρ)) : ww C M_L_law 17 601024 7293034 nx (Qr) (Qx) nx (3 * x5.toNat + 1000) (18 * x5.toNat + 100000) 1680 [(0, .ref 1200), (1, .ref 0), (2, .ref 80), (3, .ref 100), (4, .ref 101), (5, vi x5)] [] (hp nx s) := by
  unfold La_law_b1680 at hs
  refine w_aload_n 1 dL_law_1680 rfl rfl ?_
  refine w_aload_n 0 dL_law_1681 rfl rfl ?_
  refine w_iload 5 dL_law_1682 rfl ?_
  refine x_iconst dL_law_1684 ?_
  refine x_iadd dL_law_1685 ?_
  refine grd_e hs (fun hg306 hs => ?_)
  refine x_iald hg306 (Nat.le_trans hL (Nat.le_of_ble_eq_true rfl)) dL_law_1686 (Or.inr (List.mem_of_getElem? (i := 8) rfl)) ?_
  refine w_aload_n 0 dL_law_1687 rfl rfl ?_
  refine w_iload 5 dL_law_1688 rfl ?_
  refine x_iconst dL_law_1690 ?_
  refine x_iadd dL_law_1691 ?_
  refine grd_e hs (fun hg307 hs => ?_)
  refine x_iald hg307 (Nat.le_trans hL (Nat.le_of_ble_eq_true rfl)) dL_law_1692 (Or.inr (List.mem_of_getElem? (i := 8) rfl)) ?_
  refine w_aload 4 dL_law_1693 rfl ?_
  refine x_SW_B M_L_resistance [.ref 0, vi (gi s 1200 (x5 + 1).toNat), vi (gi s 1200 (x5 + 2).toNat), .ref 101] [] (k2 := (3 * x5.toNat + 1003)) (n2 := (18 * x5.toNat + 100018)) hs rfl dL_law_1695 (lkL_221 _ rfl) (Nat.le_of_ble_eq_true rfl) (by omega) (by omega) (by omega) (by omega) (Nat.le_of_ble_eq_true rfl) (c_La_resistance hnx hnK (gi s 1200 (x5 + 1).toNat) (gi s 1200 (x5 + 2).toNat) s) (fun y308 s309 hy308 hs => ?_)
  refine w_istore (lv' := [(6, vi y308), (0, .ref 1200), (1, .ref 0), (2, .ref 80), (3, .ref 100), (4, .ref 101), (5, vi x5)]) dL_law_1698 (Nat.le_of_ble_eq_true rfl) rfl ?_
  refine w_aload_n 3 dL_law_1700 rfl rfl ?_
  refine w_aload_n 1 dL_law_1701 rfl rfl ?_
  refine w_iload 6 dL_law_1702 rfl ?_
  refine x_iconst dL_law_1704 ?_
  refine x_iadd dL_law_1705 ?_
  refine grd_e hs (fun hg310 hs => ?_)
  refine x_iald hg310 (Nat.le_trans hL (Nat.le_of_ble_eq_true rfl)) dL_law_1706 (Or.inr (List.mem_of_getElem? (i := 8) rfl)) ?_
  refine w_aload_n 1 dL_law_1707 rfl rfl ?_
  refine w_iload 6 dL_law_1708 rfl ?_
  refine x_iconst dL_law_1710 ?_
  refine x_iadd dL_law_1711 ?_
  refine grd_e hs (fun hg311 hs => ?_)
  refine x_iald hg311 (Nat.le_trans hL (Nat.le_of_ble_eq_true rfl)) dL_law_1712 (Or.inr (List.mem_of_getElem? (i := 8) rfl)) ?_
  refine x_V_BF M_X12_resistance [vi (gi s309 1200 (x5 + 1).toNat), vi (gi s309 1200 (x5 + 2).toNat)] [] hs rfl dL_law_1713 (lkL_224 _ rfl) (lt_of hnx (Nat.le_of_ble_eq_true rfl)) rfl rfl (Nat.le_of_ble_eq_true rfl) (by omega) (by omega) (Nat.le_of_ble_eq_true rfl) (c_Mo_resistance (Nat.le_trans (Nat.le_of_ble_eq_true rfl) hnx) (gi s309 1200 (x5 + 1).toNat) (gi s309 1200 (x5 + 2).toNat) s309) (fun y312 s313 hy312 hs => ?_)
  refine w_fstore (lv' := [(7, .float y312), (6, vi y308), (0, .ref 1200), (1, .ref 0), (2, .ref 80), (3, .ref 100), (4, .ref 101), (5, vi x5)]) dL_law_1716 (Nat.le_of_ble_eq_true rfl) rfl ?_
  refine w_aload_n 4 dL_law_1718 rfl rfl ?_
  refine x_V_I M_X12_thrown [] [] hs rfl dL_law_1719 (lkL_150 _ rfl) (lt_of hnx (Nat.le_of_ble_eq_true rfl)) rfl rfl (Nat.le_of_ble_eq_true rfl) (by omega) (by omega) (Nat.le_of_ble_eq_true rfl) (c_Mo_thrown (Nat.le_trans (Nat.le_of_ble_eq_true rfl) hnx) s313) (fun y314 hy314 hs => ?_)
  refine w_iload 1 dL_law_1722 rfl ?_
  refine x_icmpeq hs dL_law_1724 rfl (fun hs => ?_) (fun hs => ?_)
  · refine w_iload 1 dL_law_1729 rfl ?_
    refine x_ifne hs dL_law_1731 rfl (fun hs => ?_) (fun hs => ?_)
    · refine w_lv (lv' := [(0, .ref 1200), (1, .ref 0), (2, .ref 80), (3, .ref 100), (4, .ref 101), (5, vi x5)]) [2, 3, 4, 5, 6, 7] rfl ?_
      exact w_wid (by omega) (by omega) (q_La_law_b1767 hnx hnK x5 hL h5 s313 hs hb he0)
    · refine w_aload 6 dL_law_1734 rfl ?_
      refine x_iconst dL_law_1736 ?_
      refine grd_e hs (fun hg315 hs => ?_)
      refine x_dald ⟨by decide, by decide⟩ (Nat.le_of_ble_eq_true rfl) dL_law_1737 rfl (lt_of hnx (Nat.le_of_ble_eq_true rfl)) ?_
      refine w_fload 0 dL_law_1738 rfl ?_
      refine grd_e hs (fun hg316 hs => ?_)
      refine w_f2d dL_law_1740 hg316 ?_
      refine x_dcmpl dL_law_1741 ?_
      refine x_ifeq hs dL_law_1742 rfl (fun hs => ?_) (fun hs => ?_)
      · refine w_lv (lv' := [(0, .ref 1200), (1, .ref 0), (2, .ref 80), (3, .ref 100), (4, .ref 101), (5, vi x5)]) [2, 3, 4, 5, 6, 7] rfl ?_
        exact w_wid (by omega) (by omega) (q_La_law_b1767 hnx hnK x5 hL h5 s313 hs hb he0)
      · refine w_aload 6 dL_law_1745 rfl ?_
        refine x_iconst dL_law_1747 ?_
        refine grd_e hs (fun hg317 hs => ?_)
        refine x_dald ⟨by decide, by decide⟩ (Nat.le_of_ble_eq_true rfl) dL_law_1748 rfl (lt_of hnx (Nat.le_of_ble_eq_true rfl)) ?_
        refine w_aload 6 dL_law_1749 rfl ?_
        refine x_iconst dL_law_1751 ?_
        refine grd_e hs (fun hg318 hs => ?_)
        refine x_dald ⟨by decide, by decide⟩ (Nat.le_of_ble_eq_true rfl) dL_law_1752 rfl (lt_of hnx (Nat.le_of_ble_eq_true rfl)) ?_
        refine x_dcmpl dL_law_1753 ?_
        refine x_ifeq hs dL_law_1754 rfl (fun hs => ?_) (fun hs => ?_)
        · cases hs
        · refine w_fload 0 dL_law_1757 rfl ?_
          refine w_fload 0 dL_law_1759 rfl ?_
          refine x_fcmpl dL_law_1761 ?_
          refine x_ifne hs dL_law_1762 rfl (fun hs => ?_) (fun hs => ?_)
          · refine w_lv (lv' := [(0, .ref 1200), (1, .ref 0), (2, .ref 80), (3, .ref 100), (4, .ref 101), (5, vi x5)]) [2, 3, 4, 5, 6, 7] rfl ?_
            exact w_wid (by omega) (by omega) (q_La_law_b1767 hnx hnK x5 hL h5 s313 hs hb he0)
          · cases hs
  · cases hs
set_option maxRecDepth 100000 in
set_option maxHeartbeats 4000000 in
theorem q_La_law_b1844 {C : Cx} {nx : Nat} (hnx : 102 ≤ nx) (hnK : KN ≤ nx) {Qr : Option Value → Hp → Prop} {Qx : String → Hp → Prop}  (x5 : Int) (hL : xL C ≤ 2048) (h5 : 0 ≤ x5 ∧ x5 < (xL C : Int)) (s : Sg) {o : ((Int × Sg) ⊕ (Sg))} (hs : La_law_b1844 (xL C) x5 s = some o) (hb : ∀ σ : Int × Sg, o = .inl σ → ww C M_L_law 17 601024 7293034 nx (Qr) (Qx) nx (3 * σ.1.toNat + 1000) (18 * σ.1.toNat + 100000) 28 [(0, .ref 1200), (1, .ref 0), (2, .ref 80), (3, .ref 100), (4, .ref 101), (5, vi σ.1)] [] (hp nx σ.2)) (he0 : ∀ ρ : Sg, o = .inr ρ → ww C M_L_law 17 601024 7293034 nx (Qr) (Qx) nx 8000 150000 2713 [] [] (hp nx ρ)) : ww C M_L_law 17 601024 7293034 nx (Qr) (Qx) nx (3 * x5.toNat + 1003) (18 * x5.toNat + 100018) 1844 [(0, .ref 1200), (1, .ref 0), (2, .ref 80), (3, .ref 100), (4, .ref 101), (5, vi x5)] [] (hp nx s) := by
  unfold La_law_b1844 at hs
  refine w_goto dL_law_1844 rfl ?_
  exact w_wid (by omega) (by omega) (q_La_law_b2707 hnx hnK x5 hL h5 s hs hb he0)
set_option maxRecDepth 100000 in
set_option maxHeartbeats 4000000 in
theorem q_La_law_b1770 {C : Cx} {nx : Nat} (hnx : 102 ≤ nx) (hnK : KN ≤ nx) {Qr : Option Value → Hp → Prop} {Qx : String → Hp → Prop}  (x5 : Int) (hL : xL C ≤ 2048) (h5 : 0 ≤ x5 ∧ x5 < (xL C : Int)) (s : Sg) {o : ((Int × Sg) ⊕ (Sg))} (hs : La_law_b1770 (xL C) x5 s = some o) (hb : ∀ σ : Int × Sg, o = .inl σ → ww C M_L_law 17 601024 7293034 nx (Qr) (Qx) nx (3 * σ.1.toNat + 1000) (18 * σ.1.toNat + 100000) 28 [(0, .ref 1200), (1, .ref 0), (2, .ref 80), (3, .ref 100), (4, .ref 101), (5, vi σ.1)] [] (hp nx σ.2)) (he0 : ∀ ρ : Sg, o = .inr ρ → ww C M_L_law 17 601024 7293034 nx (Qr) (Qx) nx 8000 150000 2713 [] [] (hp nx ρ)) : ww C M_L_law 17 601024 7293034 nx (Qr) (Qx) nx (3 * x5.toNat + 1000) (18 * x5.toNat + 100000) 1770 [(0, .ref 1200), (1, .ref 0), (2, .ref 80), (3, .ref 100), (4, .ref 101), (5, vi x5)] [] (hp nx s) := by
  unfold La_law_b1770 at hs
  refine w_aload_n 1 dL_law_1770 rfl rfl ?_
  refine w_aload_n 0 dL_law_1771 rfl rfl ?_
  refine w_iload 5 dL_law_1772 rfl ?_
  refine x_iconst dL_law_1774 ?_
  refine x_iadd dL_law_1775 ?_
  refine grd_e hs (fun hg321 hs => ?_)
  refine x_iald hg321 (Nat.le_trans hL (Nat.le_of_ble_eq_true rfl)) dL_law_1776 (Or.inr (List.mem_of_getElem? (i := 8) rfl)) ?_
  refine w_aload 4 dL_law_1777 rfl ?_
  refine x_SW_B M_L_balance [.ref 0, vi (gi s 1200 (x5 + 1).toNat), .ref 101] [] (k2 := (3 * x5.toNat + 1003)) (n2 := (18 * x5.toNat + 100018)) hs rfl dL_law_1779 (lkL_225 _ rfl) (Nat.le_of_ble_eq_true rfl) (by omega) (by omega) (by omega) (by omega) (Nat.le_of_ble_eq_true rfl) (c_La_balance hnx hnK (gi s 1200 (x5 + 1).toNat) s) (fun y322 s323 hy322 hs => ?_)
  refine w_istore (lv' := [(6, vi y322), (0, .ref 1200), (1, .ref 0), (2, .ref 80), (3, .ref 100), (4, .ref 101), (5, vi x5)]) dL_law_1782 (Nat.le_of_ble_eq_true rfl) rfl ?_
  refine w_aload_n 3 dL_law_1784 rfl rfl ?_
  refine w_aload_n 1 dL_law_1785 rfl rfl ?_
  refine w_iload 6 dL_law_1786 rfl ?_
  refine x_iconst dL_law_1788 ?_
  refine x_iadd dL_law_1789 ?_
  refine grd_e hs (fun hg324 hs => ?_)
  refine x_iald hg324 (Nat.le_trans hL (Nat.le_of_ble_eq_true rfl)) dL_law_1790 (Or.inr (List.mem_of_getElem? (i := 8) rfl)) ?_
  refine x_V_BD M_X12_balance [vi (gi s323 1200 (x5 + 1).toNat)] [] hs rfl dL_law_1791 (lkL_228 _ rfl) (lt_of hnx (Nat.le_of_ble_eq_true rfl)) rfl rfl (Nat.le_of_ble_eq_true rfl) (by omega) (by omega) (Nat.le_of_ble_eq_true rfl) (c_Mo_balance (Nat.le_trans (Nat.le_of_ble_eq_true rfl) hnx) (gi s323 1200 (x5 + 1).toNat) s323) (fun y325 s326 hy325 hs => ?_)
  refine w_dstore (lv' := [(7, .double y325), (6, vi y322), (0, .ref 1200), (1, .ref 0), (2, .ref 80), (3, .ref 100), (4, .ref 101), (5, vi x5)]) dL_law_1794 (Nat.le_of_ble_eq_true rfl) rfl ?_
  refine w_aload_n 4 dL_law_1796 rfl rfl ?_
  refine x_V_I M_X12_thrown [] [] hs rfl dL_law_1797 (lkL_150 _ rfl) (lt_of hnx (Nat.le_of_ble_eq_true rfl)) rfl rfl (Nat.le_of_ble_eq_true rfl) (by omega) (by omega) (Nat.le_of_ble_eq_true rfl) (c_Mo_thrown (Nat.le_trans (Nat.le_of_ble_eq_true rfl) hnx) s326) (fun y327 hy327 hs => ?_)
  refine w_iload 1 dL_law_1800 rfl ?_
  refine x_icmpeq hs dL_law_1802 rfl (fun hs => ?_) (fun hs => ?_)
  · refine w_iload 1 dL_law_1807 rfl ?_
    refine x_ifne hs dL_law_1809 rfl (fun hs => ?_) (fun hs => ?_)
    · refine w_lv (lv' := [(0, .ref 1200), (1, .ref 0), (2, .ref 80), (3, .ref 100), (4, .ref 101), (5, vi x5)]) [2, 3, 4, 5, 6, 7] rfl ?_
      exact w_wid (by omega) (by omega) (q_La_law_b1844 hnx hnK x5 hL h5 s326 hs hb he0)
    · refine w_aload 6 dL_law_1812 rfl ?_
      refine x_iconst dL_law_1814 ?_
      refine grd_e hs (fun hg328 hs => ?_)
      refine x_dald ⟨by decide, by decide⟩ (Nat.le_of_ble_eq_true rfl) dL_law_1815 rfl (lt_of hnx (Nat.le_of_ble_eq_true rfl)) ?_
      refine w_dload 0 dL_law_1816 rfl ?_
      refine x_dcmpl dL_law_1818 ?_
      refine x_ifeq hs dL_law_1819 rfl (fun hs => ?_) (fun hs => ?_)
      · refine w_lv (lv' := [(0, .ref 1200), (1, .ref 0), (2, .ref 80), (3, .ref 100), (4, .ref 101), (5, vi x5)]) [2, 3, 4, 5, 6, 7] rfl ?_
        exact w_wid (by omega) (by omega) (q_La_law_b1844 hnx hnK x5 hL h5 s326 hs hb he0)
      · refine w_aload 6 dL_law_1822 rfl ?_
        refine x_iconst dL_law_1824 ?_
        refine grd_e hs (fun hg329 hs => ?_)
        refine x_dald ⟨by decide, by decide⟩ (Nat.le_of_ble_eq_true rfl) dL_law_1825 rfl (lt_of hnx (Nat.le_of_ble_eq_true rfl)) ?_
        refine w_aload 6 dL_law_1826 rfl ?_
        refine x_iconst dL_law_1828 ?_
        refine grd_e hs (fun hg330 hs => ?_)
        refine x_dald ⟨by decide, by decide⟩ (Nat.le_of_ble_eq_true rfl) dL_law_1829 rfl (lt_of hnx (Nat.le_of_ble_eq_true rfl)) ?_
        refine x_dcmpl dL_law_1830 ?_
        refine x_ifeq hs dL_law_1831 rfl (fun hs => ?_) (fun hs => ?_)
        · cases hs
        · refine w_dload 0 dL_law_1834 rfl ?_
          refine w_dload 0 dL_law_1836 rfl ?_
          refine x_dcmpl dL_law_1838 ?_
          refine x_ifne hs dL_law_1839 rfl (fun hs => ?_) (fun hs => ?_)
          · refine w_lv (lv' := [(0, .ref 1200), (1, .ref 0), (2, .ref 80), (3, .ref 100), (4, .ref 101), (5, vi x5)]) [2, 3, 4, 5, 6, 7] rfl ?_
            exact w_wid (by omega) (by omega) (q_La_law_b1844 hnx hnK x5 hL h5 s326 hs hb he0)
          · cases hs
  · cases hs
set_option maxRecDepth 100000 in
set_option maxHeartbeats 4000000 in
theorem q_La_law_b1847 {C : Cx} {nx : Nat} (hnx : 102 ≤ nx) (hnK : KN ≤ nx) {Qr : Option Value → Hp → Prop} {Qx : String → Hp → Prop}  (x5 : Int) (hL : xL C ≤ 2048) (h5 : 0 ≤ x5 ∧ x5 < (xL C : Int)) (s : Sg) {o : ((Int × Sg) ⊕ (Sg))} (hs : La_law_b1847 (xL C) x5 s = some o) (hb : ∀ σ : Int × Sg, o = .inl σ → ww C M_L_law 17 601024 7293034 nx (Qr) (Qx) nx (3 * σ.1.toNat + 1000) (18 * σ.1.toNat + 100000) 28 [(0, .ref 1200), (1, .ref 0), (2, .ref 80), (3, .ref 100), (4, .ref 101), (5, vi σ.1)] [] (hp nx σ.2)) (he0 : ∀ ρ : Sg, o = .inr ρ → ww C M_L_law 17 601024 7293034 nx (Qr) (Qx) nx 8000 150000 2713 [] [] (hp nx ρ)) : ww C M_L_law 17 601024 7293034 nx (Qr) (Qx) nx (3 * x5.toNat + 1000) (18 * x5.toNat + 100000) 1847 [(0, .ref 1200), (1, .ref 0), (2, .ref 80), (3, .ref 100), (4, .ref 101), (5, vi x5)] [] (hp nx s) := by
  unfold La_law_b1847 at hs
  refine w_aload_n 1 dL_law_1847 rfl rfl ?_
  refine x_V_B M_X11_solved [] [] hs rfl dL_law_1848 (lkL_229 _ rfl) (lt_of hnx (Nat.le_of_ble_eq_true rfl)) rfl rfl (Nat.le_of_ble_eq_true rfl) (by omega) (by omega) (Nat.le_of_ble_eq_true rfl) (c_Hx_solved (Nat.le_trans (Nat.le_of_ble_eq_true rfl) hnx) s) (fun y333 s334 hy333 hs => ?_)
  refine w_aload_n 2 dL_law_1851 rfl rfl ?_
  refine x_V_B M_X12_solved [] [vi y333] hs rfl dL_law_1852 (lkL_232 _ rfl) (lt_of hnx (Nat.le_of_ble_eq_true rfl)) rfl rfl (Nat.le_of_ble_eq_true rfl) (by omega) (by omega) (Nat.le_of_ble_eq_true rfl) (c_Mo_solved (Nat.le_trans (Nat.le_of_ble_eq_true rfl) hnx) s334) (fun y335 s336 hy335 hs => ?_)
  refine x_icmpeq hs dL_law_1855 rfl (fun hs => ?_) (fun hs => ?_)
  · exact w_wid (by omega) (by omega) (q_La_law_b2707 hnx hnK x5 hL h5 s336 hs hb he0)
  · cases hs
set_option maxRecDepth 100000 in
set_option maxHeartbeats 4000000 in
theorem q_La_law_b1860 {C : Cx} {nx : Nat} (hnx : 102 ≤ nx) (hnK : KN ≤ nx) {Qr : Option Value → Hp → Prop} {Qx : String → Hp → Prop}  (x5 : Int) (hL : xL C ≤ 2048) (h5 : 0 ≤ x5 ∧ x5 < (xL C : Int)) (s : Sg) {o : ((Int × Sg) ⊕ (Sg))} (hs : La_law_b1860 (xL C) x5 s = some o) (hb : ∀ σ : Int × Sg, o = .inl σ → ww C M_L_law 17 601024 7293034 nx (Qr) (Qx) nx (3 * σ.1.toNat + 1000) (18 * σ.1.toNat + 100000) 28 [(0, .ref 1200), (1, .ref 0), (2, .ref 80), (3, .ref 100), (4, .ref 101), (5, vi σ.1)] [] (hp nx σ.2)) (he0 : ∀ ρ : Sg, o = .inr ρ → ww C M_L_law 17 601024 7293034 nx (Qr) (Qx) nx 8000 150000 2713 [] [] (hp nx ρ)) : ww C M_L_law 17 601024 7293034 nx (Qr) (Qx) nx (3 * x5.toNat + 1000) (18 * x5.toNat + 100000) 1860 [(0, .ref 1200), (1, .ref 0), (2, .ref 80), (3, .ref 100), (4, .ref 101), (5, vi x5)] [] (hp nx s) := by
  unfold La_law_b1860 at hs
  refine w_aload_n 1 dL_law_1860 rfl rfl ?_
  refine x_V_B M_X11_goodMoves [] [] hs rfl dL_law_1861 (lkL_233 _ rfl) (lt_of hnx (Nat.le_of_ble_eq_true rfl)) rfl rfl (Nat.le_of_ble_eq_true rfl) (by omega) (by omega) (Nat.le_of_ble_eq_true rfl) (c_Hx_goodMoves (Nat.le_trans (Nat.le_of_ble_eq_true rfl) hnx) s) (fun y339 s340 hy339 hs => ?_)
  refine w_aload_n 2 dL_law_1864 rfl rfl ?_
  refine x_V_B M_X12_goodMoves [] [vi y339] hs rfl dL_law_1865 (lkL_236 _ rfl) (lt_of hnx (Nat.le_of_ble_eq_true rfl)) rfl rfl (Nat.le_of_ble_eq_true rfl) (by omega) (by omega) (Nat.le_of_ble_eq_true rfl) (c_Mo_goodMoves (Nat.le_trans (Nat.le_of_ble_eq_true rfl) hnx) s340) (fun y341 s342 hy341 hs => ?_)
  refine x_icmpeq hs dL_law_1868 rfl (fun hs => ?_) (fun hs => ?_)
  · exact w_wid (by omega) (by omega) (q_La_law_b2707 hnx hnK x5 hL h5 s342 hs hb he0)
  · cases hs
set_option maxRecDepth 100000 in
set_option maxHeartbeats 4000000 in
theorem q_La_law_b1873 {C : Cx} {nx : Nat} (hnx : 102 ≤ nx) (hnK : KN ≤ nx) {Qr : Option Value → Hp → Prop} {Qx : String → Hp → Prop}  (x5 : Int) (hL : xL C ≤ 2048) (h5 : 0 ≤ x5 ∧ x5 < (xL C : Int)) (s : Sg) {o : ((Int × Sg) ⊕ (Sg))} (hs : La_law_b1873 (xL C) x5 s = some o) (hb : ∀ σ : Int × Sg, o = .inl σ → ww C M_L_law 17 601024 7293034 nx (Qr) (Qx) nx (3 * σ.1.toNat + 1000) (18 * σ.1.toNat + 100000) 28 [(0, .ref 1200), (1, .ref 0), (2, .ref 80), (3, .ref 100), (4, .ref 101), (5, vi σ.1)] [] (hp nx σ.2)) (he0 : ∀ ρ : Sg, o = .inr ρ → ww C M_L_law 17 601024 7293034 nx (Qr) (Qx) nx 8000 150000 2713 [] [] (hp nx ρ)) : ww C M_L_law 17 601024 7293034 nx (Qr) (Qx) nx (3 * x5.toNat + 1000) (18 * x5.toNat + 100000) 1873 [(0, .ref 1200), (1, .ref 0), (2, .ref 80), (3, .ref 100), (4, .ref 101), (5, vi x5)] [] (hp nx s) := by
  unfold La_law_b1873 at hs
  refine w_aload_n 1 dL_law_1873 rfl rfl ?_
  refine x_V_B M_X11_bestMove [] [] hs rfl dL_law_1874 (lkL_237 _ rfl) (lt_of hnx (Nat.le_of_ble_eq_true rfl)) rfl rfl (Nat.le_of_ble_eq_true rfl) (by omega) (by omega) (Nat.le_of_ble_eq_true rfl) (c_Hx_bestMove (Nat.le_trans (Nat.le_of_ble_eq_true rfl) hnx) s) (fun y345 s346 hy345 hs => ?_)
  refine w_aload_n 2 dL_law_1877 rfl rfl ?_
  refine x_V_B M_X12_bestMove [] [vi y345] hs rfl dL_law_1878 (lkL_240 _ rfl) (lt_of hnx (Nat.le_of_ble_eq_true rfl)) rfl rfl (Nat.le_of_ble_eq_true rfl) (by omega) (by omega) (Nat.le_of_ble_eq_true rfl) (c_Mo_bestMove (Nat.le_trans (Nat.le_of_ble_eq_true rfl) hnx) s346) (fun y347 s348 hy347 hs => ?_)
  refine x_icmpeq hs dL_law_1881 rfl (fun hs => ?_) (fun hs => ?_)
  · exact w_wid (by omega) (by omega) (q_La_law_b2707 hnx hnK x5 hL h5 s348 hs hb he0)
  · cases hs
set_option maxRecDepth 100000 in
set_option maxHeartbeats 4000000 in
theorem q_La_law_b1939 {C : Cx} {nx : Nat} (hnx : 102 ≤ nx) (hnK : KN ≤ nx) {Qr : Option Value → Hp → Prop} {Qx : String → Hp → Prop}  (x5 : Int) (hL : xL C ≤ 2048) (h5 : 0 ≤ x5 ∧ x5 < (xL C : Int)) (s : Sg) {o : ((Int × Sg) ⊕ (Sg))} (hs : La_law_b1939 (xL C) x5 s = some o) (hb : ∀ σ : Int × Sg, o = .inl σ → ww C M_L_law 17 601024 7293034 nx (Qr) (Qx) nx (3 * σ.1.toNat + 1000) (18 * σ.1.toNat + 100000) 28 [(0, .ref 1200), (1, .ref 0), (2, .ref 80), (3, .ref 100), (4, .ref 101), (5, vi σ.1)] [] (hp nx σ.2)) (he0 : ∀ ρ : Sg, o = .inr ρ → ww C M_L_law 17 601024 7293034 nx (Qr) (Qx) nx 8000 150000 2713 [] [] (hp nx ρ)) : ww C M_L_law 17 601024 7293034 nx (Qr) (Qx) nx (3 * x5.toNat + 1003) (18 * x5.toNat + 100018) 1939 [(0, .ref 1200), (1, .ref 0), (2, .ref 80), (3, .ref 100), (4, .ref 101), (5, vi x5)] [] (hp nx s) := by
  unfold La_law_b1939 at hs
  refine w_goto dL_law_1939 rfl ?_
  exact w_wid (by omega) (by omega) (q_La_law_b2707 hnx hnK x5 hL h5 s hs hb he0)
set_option maxRecDepth 100000 in
set_option maxHeartbeats 4000000 in
theorem q_La_law_b1886 {C : Cx} {nx : Nat} (hnx : 102 ≤ nx) (hnK : KN ≤ nx) {Qr : Option Value → Hp → Prop} {Qx : String → Hp → Prop}  (x5 : Int) (hL : xL C ≤ 2048) (h5 : 0 ≤ x5 ∧ x5 < (xL C : Int)) (s : Sg) {o : ((Int × Sg) ⊕ (Sg))} (hs : La_law_b1886 (xL C) x5 s = some o) (hb : ∀ σ : Int × Sg, o = .inl σ → ww C M_L_law 17 601024 7293034 nx (Qr) (Qx) nx (3 * σ.1.toNat + 1000) (18 * σ.1.toNat + 100000) 28 [(0, .ref 1200), (1, .ref 0), (2, .ref 80), (3, .ref 100), (4, .ref 101), (5, vi σ.1)] [] (hp nx σ.2)) (he0 : ∀ ρ : Sg, o = .inr ρ → ww C M_L_law 17 601024 7293034 nx (Qr) (Qx) nx 8000 150000 2713 [] [] (hp nx ρ)) : ww C M_L_law 17 601024 7293034 nx (Qr) (Qx) nx (3 * x5.toNat + 1000) (18 * x5.toNat + 100000) 1886 [(0, .ref 1200), (1, .ref 0), (2, .ref 80), (3, .ref 100), (4, .ref 101), (5, vi x5)] [] (hp nx s) := by
  unfold La_law_b1886 at hs
  refine w_aload_n 1 dL_law_1886 rfl rfl ?_
  refine w_aload_n 0 dL_law_1887 rfl rfl ?_
  refine w_iload 5 dL_law_1888 rfl ?_
  refine x_iconst dL_law_1890 ?_
  refine x_iadd dL_law_1891 ?_
  refine grd_e hs (fun hg351 hs => ?_)
  refine x_iald hg351 (Nat.le_trans hL (Nat.le_of_ble_eq_true rfl)) dL_law_1892 (Or.inr (List.mem_of_getElem? (i := 8) rfl)) ?_
  refine w_aload_n 3 dL_law_1893 rfl rfl ?_
  refine x_SW_B M_L_filled [.ref 0, vi (gi s 1200 (x5 + 1).toNat), .ref 100] [] (k2 := (3 * x5.toNat + 1003)) (n2 := (18 * x5.toNat + 100018)) hs rfl dL_law_1894 (lkL_241 _ rfl) (Nat.le_of_ble_eq_true rfl) (by omega) (by omega) (by omega) (by omega) (Nat.le_of_ble_eq_true rfl) (c_La_filled hnx hnK (gi s 1200 (x5 + 1).toNat) s) (fun y352 s353 hy352 hs => ?_)
  refine w_istore (lv' := [(6, vi y352), (0, .ref 1200), (1, .ref 0), (2, .ref 80), (3, .ref 100), (4, .ref 101), (5, vi x5)]) dL_law_1897 (Nat.le_of_ble_eq_true rfl) rfl ?_
  refine w_aload_n 3 dL_law_1899 rfl rfl ?_
  refine w_aload_n 1 dL_law_1900 rfl rfl ?_
  refine w_iload 6 dL_law_1901 rfl ?_
  refine x_iconst dL_law_1903 ?_
  refine x_iadd dL_law_1904 ?_
  refine grd_e hs (fun hg354 hs => ?_)
  refine x_iald hg354 (Nat.le_trans hL (Nat.le_of_ble_eq_true rfl)) dL_law_1905 (Or.inr (List.mem_of_getElem? (i := 8) rfl)) ?_
  refine x_V_B M_X12_filled [vi (gi s353 1200 (x5 + 1).toNat)] [] hs rfl dL_law_1906 (lkL_243 _ rfl) (lt_of hnx (Nat.le_of_ble_eq_true rfl)) rfl rfl (Nat.le_of_ble_eq_true rfl) (by omega) (by omega) (Nat.le_of_ble_eq_true rfl) (c_Mo_filled (Nat.le_trans (Nat.le_of_ble_eq_true rfl) hnx) (gi s353 1200 (x5 + 1).toNat) s353) (fun y355 s356 hy355 hs => ?_)
  refine w_istore (lv' := [(7, vi y355), (6, vi y352), (0, .ref 1200), (1, .ref 0), (2, .ref 80), (3, .ref 100), (4, .ref 101), (5, vi x5)]) dL_law_1909 (Nat.le_of_ble_eq_true rfl) rfl ?_
  refine w_aload_n 4 dL_law_1911 rfl rfl ?_
  refine x_V_I M_X12_thrown [] [] hs rfl dL_law_1912 (lkL_150 _ rfl) (lt_of hnx (Nat.le_of_ble_eq_true rfl)) rfl rfl (Nat.le_of_ble_eq_true rfl) (by omega) (by omega) (Nat.le_of_ble_eq_true rfl) (c_Mo_thrown (Nat.le_trans (Nat.le_of_ble_eq_true rfl) hnx) s356) (fun y357 hy357 hs => ?_)
  refine w_iload 1 dL_law_1915 rfl ?_
  refine x_icmpeq hs dL_law_1917 rfl (fun hs => ?_) (fun hs => ?_)
  · refine w_iload 1 dL_law_1922 rfl ?_
    refine x_ifne hs dL_law_1924 rfl (fun hs => ?_) (fun hs => ?_)
    · refine w_lv (lv' := [(0, .ref 1200), (1, .ref 0), (2, .ref 80), (3, .ref 100), (4, .ref 101), (5, vi x5)]) [2, 3, 4, 5, 6, 7] rfl ?_
      exact w_wid (by omega) (by omega) (q_La_law_b1939 hnx hnK x5 hL h5 s356 hs hb he0)
    · refine w_aload_n 5 dL_law_1927 rfl rfl ?_
      refine x_iconst dL_law_1928 ?_
      refine grd_e hs (fun hg358 hs => ?_)
      refine x_lald ⟨by decide, by decide⟩ (Nat.le_of_ble_eq_true rfl) dL_law_1929 rfl (lt_of hnx (Nat.le_of_ble_eq_true rfl)) ?_
      refine w_iload 0 dL_law_1930 rfl ?_
      refine grd_e hs (fun hg359 hs => ?_)
      refine x_i2l dL_law_1932 hg359 ?_
      refine grd_e hs (fun hg360 hs => ?_)
      refine x_lcmp dL_law_1933 hg360.1 hg360.2 ?_
      refine x_ifeq hs dL_law_1934 rfl (fun hs => ?_) (fun hs => ?_)
      · refine w_lv (lv' := [(0, .ref 1200), (1, .ref 0), (2, .ref 80), (3, .ref 100), (4, .ref 101), (5, vi x5)]) [2, 3, 4, 5, 6, 7] rfl ?_
        exact w_wid (by omega) (by omega) (q_La_law_b1939 hnx hnK x5 hL h5 s356 hs hb he0)
      · cases hs
  · cases hs
set_option maxRecDepth 100000 in
set_option maxHeartbeats 4000000 in
theorem q_La_law_b2019 {C : Cx} {nx : Nat} (hnx : 102 ≤ nx) (hnK : KN ≤ nx) {Qr : Option Value → Hp → Prop} {Qx : String → Hp → Prop}  (x5 : Int) (hL : xL C ≤ 2048) (h5 : 0 ≤ x5 ∧ x5 < (xL C : Int)) (s : Sg) {o : ((Int × Sg) ⊕ (Sg))} (hs : La_law_b2019 (xL C) x5 s = some o) (hb : ∀ σ : Int × Sg, o = .inl σ → ww C M_L_law 17 601024 7293034 nx (Qr) (Qx) nx (3 * σ.1.toNat + 1000) (18 * σ.1.toNat + 100000) 28 [(0, .ref 1200), (1, .ref 0), (2, .ref 80), (3, .ref 100), (4, .ref 101), (5, vi σ.1)] [] (hp nx σ.2)) (he0 : ∀ ρ : Sg, o = .inr ρ → ww C M_L_law 17 601024 7293034 nx (Qr) (Qx) nx 8000 150000 2713 [] [] (hp nx ρ)) : ww C M_L_law 17 601024 7293034 nx (Qr) (Qx) nx (3 * x5.toNat + 1003) (18 * x5.toNat + 100018) 2019 [(0, .ref 1200), (1, .ref 0), (2, .ref 80), (3, .ref 100), (4, .ref 101), (5, vi x5)] [] (hp nx s) := by
  unfold La_law_b2019 at hs
  refine w_goto dL_law_2019 rfl ?_
  exact w_wid (by omega) (by omega) (q_La_law_b2707 hnx hnK x5 hL h5 s hs hb he0)
set_option maxRecDepth 100000 in
set_option maxHeartbeats 4000000 in
theorem q_La_law_b1942 {C : Cx} {nx : Nat} (hnx : 102 ≤ nx) (hnK : KN ≤ nx) {Qr : Option Value → Hp → Prop} {Qx : String → Hp → Prop}  (x5 : Int) (hL : xL C ≤ 2048) (h5 : 0 ≤ x5 ∧ x5 < (xL C : Int)) (s : Sg) {o : ((Int × Sg) ⊕ (Sg))} (hs : La_law_b1942 (xL C) x5 s = some o) (hb : ∀ σ : Int × Sg, o = .inl σ → ww C M_L_law 17 601024 7293034 nx (Qr) (Qx) nx (3 * σ.1.toNat + 1000) (18 * σ.1.toNat + 100000) 28 [(0, .ref 1200), (1, .ref 0), (2, .ref 80), (3, .ref 100), (4, .ref 101), (5, vi σ.1)] [] (hp nx σ.2)) (he0 : ∀ ρ : Sg, o = .inr ρ → ww C M_L_law 17 601024 7293034 nx (Qr) (Qx) nx 8000 150000 2713 [] [] (hp nx ρ)) : ww C M_L_law 17 601024 7293034 nx (Qr) (Qx) nx (3 * x5.toNat + 1000) (18 * x5.toNat + 100000) 1942 [(0, .ref 1200), (1, .ref 0), (2, .ref 80), (3, .ref 100), (4, .ref 101), (5, vi x5)] [] (hp nx s) := by
  unfold La_law_b1942 at hs
  refine w_aload_n 1 dL_law_1942 rfl rfl ?_
  refine w_aload_n 0 dL_law_1943 rfl rfl ?_
  refine w_iload 5 dL_law_1944 rfl ?_
  refine x_iconst dL_law_1946 ?_
  refine x_iadd dL_law_1947 ?_
  refine grd_e hs (fun hg363 hs => ?_)
  refine x_iald hg363 (Nat.le_trans hL (Nat.le_of_ble_eq_true rfl)) dL_law_1948 (Or.inr (List.mem_of_getElem? (i := 8) rfl)) ?_
  refine w_aload_n 0 dL_law_1949 rfl rfl ?_
  refine w_iload 5 dL_law_1950 rfl ?_
  refine x_iconst dL_law_1952 ?_
  refine x_iadd dL_law_1953 ?_
  refine grd_e hs (fun hg364 hs => ?_)
  refine x_iald hg364 (Nat.le_trans hL (Nat.le_of_ble_eq_true rfl)) dL_law_1954 (Or.inr (List.mem_of_getElem? (i := 8) rfl)) ?_
  refine w_aload_n 0 dL_law_1955 rfl rfl ?_
  refine w_iload 5 dL_law_1956 rfl ?_
  refine x_iconst dL_law_1958 ?_
  refine x_iadd dL_law_1959 ?_
  refine grd_e hs (fun hg365 hs => ?_)
  refine x_iald hg365 (Nat.le_trans hL (Nat.le_of_ble_eq_true rfl)) dL_law_1960 (Or.inr (List.mem_of_getElem? (i := 8) rfl)) ?_
  refine w_aload_n 3 dL_law_1961 rfl rfl ?_
  refine x_SW_B M_L_fillings [.ref 0, vi (gi s 1200 (x5 + 1).toNat), vi (gi s 1200 (x5 + 2).toNat), vi (gi s 1200 (x5 + 3).toNat), .ref 100] [] (k2 := (3 * x5.toNat + 1003)) (n2 := (18 * x5.toNat + 100018)) hs rfl dL_law_1962 (lkL_244 _ rfl) (Nat.le_of_ble_eq_true rfl) (by omega) (by omega) (by omega) (by omega) (Nat.le_of_ble_eq_true rfl) (c_La_fillings hnx hnK (gi s 1200 (x5 + 1).toNat) (gi s 1200 (x5 + 2).toNat) (gi s 1200 (x5 + 3).toNat) s) (fun y366 s367 hy366 hs => ?_)
  refine w_istore (lv' := [(6, vi y366), (0, .ref 1200), (1, .ref 0), (2, .ref 80), (3, .ref 100), (4, .ref 101), (5, vi x5)]) dL_law_1965 (Nat.le_of_ble_eq_true rfl) rfl ?_
  refine w_aload_n 3 dL_law_1967 rfl rfl ?_
  refine w_aload_n 1 dL_law_1968 rfl rfl ?_
  refine w_iload 6 dL_law_1969 rfl ?_
  refine x_iconst dL_law_1971 ?_
  refine x_iadd dL_law_1972 ?_
  refine grd_e hs (fun hg368 hs => ?_)
  refine x_iald hg368 (Nat.le_trans hL (Nat.le_of_ble_eq_true rfl)) dL_law_1973 (Or.inr (List.mem_of_getElem? (i := 8) rfl)) ?_
  refine w_aload_n 1 dL_law_1974 rfl rfl ?_
  refine w_iload 6 dL_law_1975 rfl ?_
  refine x_iconst dL_law_1977 ?_
  refine x_iadd dL_law_1978 ?_
  refine grd_e hs (fun hg369 hs => ?_)
  refine x_iald hg369 (Nat.le_trans hL (Nat.le_of_ble_eq_true rfl)) dL_law_1979 (Or.inr (List.mem_of_getElem? (i := 8) rfl)) ?_
  refine w_aload_n 1 dL_law_1980 rfl rfl ?_
  refine w_iload 6 dL_law_1981 rfl ?_
  refine x_iconst dL_law_1983 ?_
  refine x_iadd dL_law_1984 ?_
  refine grd_e hs (fun hg370 hs => ?_)
  refine x_iald hg370 (Nat.le_trans hL (Nat.le_of_ble_eq_true rfl)) dL_law_1985 (Or.inr (List.mem_of_getElem? (i := 8) rfl)) ?_
  refine x_V_B M_X12_fillings [vi (gi s367 1200 (x5 + 1).toNat), vi (gi s367 1200 (x5 + 2).toNat), vi (gi s367 1200 (x5 + 3).toNat)] [] hs rfl dL_law_1986 (lkL_246 _ rfl) (lt_of hnx (Nat.le_of_ble_eq_true rfl)) rfl rfl (Nat.le_of_ble_eq_true rfl) (by omega) (by omega) (Nat.le_of_ble_eq_true rfl) (c_Mo_fillings (Nat.le_trans (Nat.le_of_ble_eq_true rfl) hnx) (gi s367 1200 (x5 + 1).toNat) (gi s367 1200 (x5 + 2).toNat) (gi s367 1200 (x5 + 3).toNat) s367) (fun y371 s372 hy371 hs => ?_)
  refine w_istore (lv' := [(7, vi y371), (6, vi y366), (0, .ref 1200), (1, .ref 0), (2, .ref 80), (3, .ref 100), (4, .ref 101), (5, vi x5)]) dL_law_1989 (Nat.le_of_ble_eq_true rfl) rfl ?_
  refine w_aload_n 4 dL_law_1991 rfl rfl ?_
  refine x_V_I M_X12_thrown [] [] hs rfl dL_law_1992 (lkL_150 _ rfl) (lt_of hnx (Nat.le_of_ble_eq_true rfl)) rfl rfl (Nat.le_of_ble_eq_true rfl) (by omega) (by omega) (Nat.le_of_ble_eq_true rfl) (c_Mo_thrown (Nat.le_trans (Nat.le_of_ble_eq_true rfl) hnx) s372) (fun y373 hy373 hs => ?_)
  refine w_iload 1 dL_law_1995 rfl ?_
  refine x_icmpeq hs dL_law_1997 rfl (fun hs => ?_) (fun hs => ?_)
  · refine w_iload 1 dL_law_2002 rfl ?_
    refine x_ifne hs dL_law_2004 rfl (fun hs => ?_) (fun hs => ?_)
    · refine w_lv (lv' := [(0, .ref 1200), (1, .ref 0), (2, .ref 80), (3, .ref 100), (4, .ref 101), (5, vi x5)]) [2, 3, 4, 5, 6, 7] rfl ?_
      exact w_wid (by omega) (by omega) (q_La_law_b2019 hnx hnK x5 hL h5 s372 hs hb he0)
    · refine w_aload_n 5 dL_law_2007 rfl rfl ?_
      refine x_iconst dL_law_2008 ?_
      refine grd_e hs (fun hg374 hs => ?_)
      refine x_lald ⟨by decide, by decide⟩ (Nat.le_of_ble_eq_true rfl) dL_law_2009 rfl (lt_of hnx (Nat.le_of_ble_eq_true rfl)) ?_
      refine w_iload 0 dL_law_2010 rfl ?_
      refine grd_e hs (fun hg375 hs => ?_)
      refine x_i2l dL_law_2012 hg375 ?_
      refine grd_e hs (fun hg376 hs => ?_)
      refine x_lcmp dL_law_2013 hg376.1 hg376.2 ?_
      refine x_ifeq hs dL_law_2014 rfl (fun hs => ?_) (fun hs => ?_)
      · refine w_lv (lv' := [(0, .ref 1200), (1, .ref 0), (2, .ref 80), (3, .ref 100), (4, .ref 101), (5, vi x5)]) [2, 3, 4, 5, 6, 7] rfl ?_
        exact w_wid (by omega) (by omega) (q_La_law_b2019 hnx hnK x5 hL h5 s372 hs hb he0)
      · cases hs
  · cases hs
set_option maxRecDepth 100000 in
set_option maxHeartbeats 4000000 in
theorem q_La_law_b2075 {C : Cx} {nx : Nat} (hnx : 102 ≤ nx) (hnK : KN ≤ nx) {Qr : Option Value → Hp → Prop} {Qx : String → Hp → Prop}  (x5 : Int) (hL : xL C ≤ 2048) (h5 : 0 ≤ x5 ∧ x5 < (xL C : Int)) (s : Sg) {o : ((Int × Sg) ⊕ (Sg))} (hs : La_law_b2075 (xL C) x5 s = some o) (hb : ∀ σ : Int × Sg, o = .inl σ → ww C M_L_law 17 601024 7293034 nx (Qr) (Qx) nx (3 * σ.1.toNat + 1000) (18 * σ.1.toNat + 100000) 28 [(0, .ref 1200), (1, .ref 0), (2, .ref 80), (3, .ref 100), (4, .ref 101), (5, vi σ.1)] [] (hp nx σ.2)) (he0 : ∀ ρ : Sg, o = .inr ρ → ww C M_L_law 17 601024 7293034 nx (Qr) (Qx) nx 8000 150000 2713 [] [] (hp nx ρ)) : ww C M_L_law 17 601024 7293034 nx (Qr) (Qx) nx (3 * x5.toNat + 1003) (18 * x5.toNat + 100018) 2075 [(0, .ref 1200), (1, .ref 0), (2, .ref 80), (3, .ref 100), (4, .ref 101), (5, vi x5)] [] (hp nx s) := by
  unfold La_law_b2075 at hs
  refine w_goto dL_law_2075 rfl ?_
  exact w_wid (by omega) (by omega) (q_La_law_b2707 hnx hnK x5 hL h5 s hs hb he0)
set_option maxRecDepth 100000 in
set_option maxHeartbeats 4000000 in
theorem q_La_law_b2022 {C : Cx} {nx : Nat} (hnx : 102 ≤ nx) (hnK : KN ≤ nx) {Qr : Option Value → Hp → Prop} {Qx : String → Hp → Prop}  (x5 : Int) (hL : xL C ≤ 2048) (h5 : 0 ≤ x5 ∧ x5 < (xL C : Int)) (s : Sg) {o : ((Int × Sg) ⊕ (Sg))} (hs : La_law_b2022 (xL C) x5 s = some o) (hb : ∀ σ : Int × Sg, o = .inl σ → ww C M_L_law 17 601024 7293034 nx (Qr) (Qx) nx (3 * σ.1.toNat + 1000) (18 * σ.1.toNat + 100000) 28 [(0, .ref 1200), (1, .ref 0), (2, .ref 80), (3, .ref 100), (4, .ref 101), (5, vi σ.1)] [] (hp nx σ.2)) (he0 : ∀ ρ : Sg, o = .inr ρ → ww C M_L_law 17 601024 7293034 nx (Qr) (Qx) nx 8000 150000 2713 [] [] (hp nx ρ)) : ww C M_L_law 17 601024 7293034 nx (Qr) (Qx) nx (3 * x5.toNat + 1000) (18 * x5.toNat + 100000) 2022 [(0, .ref 1200), (1, .ref 0), (2, .ref 80), (3, .ref 100), (4, .ref 101), (5, vi x5)] [] (hp nx s) := by
  unfold La_law_b2022 at hs
  refine w_aload_n 1 dL_law_2022 rfl rfl ?_
  refine w_aload_n 0 dL_law_2023 rfl rfl ?_
  refine w_iload 5 dL_law_2024 rfl ?_
  refine x_iconst dL_law_2026 ?_
  refine x_iadd dL_law_2027 ?_
  refine grd_e hs (fun hg379 hs => ?_)
  refine x_iald hg379 (Nat.le_trans hL (Nat.le_of_ble_eq_true rfl)) dL_law_2028 (Or.inr (List.mem_of_getElem? (i := 8) rfl)) ?_
  refine w_aload_n 3 dL_law_2029 rfl rfl ?_
  refine x_SW_B M_L_idle [.ref 0, vi (gi s 1200 (x5 + 1).toNat), .ref 100] [] (k2 := (3 * x5.toNat + 1003)) (n2 := (18 * x5.toNat + 100018)) hs rfl dL_law_2030 (lkL_247 _ rfl) (Nat.le_of_ble_eq_true rfl) (by omega) (by omega) (by omega) (by omega) (Nat.le_of_ble_eq_true rfl) (c_La_idle hnx hnK (gi s 1200 (x5 + 1).toNat) s) (fun y380 s381 hy380 hs => ?_)
  refine w_istore (lv' := [(6, vi y380), (0, .ref 1200), (1, .ref 0), (2, .ref 80), (3, .ref 100), (4, .ref 101), (5, vi x5)]) dL_law_2033 (Nat.le_of_ble_eq_true rfl) rfl ?_
  refine w_aload_n 3 dL_law_2035 rfl rfl ?_
  refine w_aload_n 1 dL_law_2036 rfl rfl ?_
  refine w_iload 6 dL_law_2037 rfl ?_
  refine x_iconst dL_law_2039 ?_
  refine x_iadd dL_law_2040 ?_
  refine grd_e hs (fun hg382 hs => ?_)
  refine x_iald hg382 (Nat.le_trans hL (Nat.le_of_ble_eq_true rfl)) dL_law_2041 (Or.inr (List.mem_of_getElem? (i := 8) rfl)) ?_
  refine x_V_B M_X12_idle [vi (gi s381 1200 (x5 + 1).toNat)] [] hs rfl dL_law_2042 (lkL_249 _ rfl) (lt_of hnx (Nat.le_of_ble_eq_true rfl)) rfl rfl (Nat.le_of_ble_eq_true rfl) (by omega) (by omega) (Nat.le_of_ble_eq_true rfl) (c_Mo_idle (Nat.le_trans (Nat.le_of_ble_eq_true rfl) hnx) (gi s381 1200 (x5 + 1).toNat) s381) (fun y383 s384 hy383 hs => ?_)
  refine w_istore (lv' := [(7, vi y383), (6, vi y380), (0, .ref 1200), (1, .ref 0), (2, .ref 80), (3, .ref 100), (4, .ref 101), (5, vi x5)]) dL_law_2045 (Nat.le_of_ble_eq_true rfl) rfl ?_
  refine w_aload_n 4 dL_law_2047 rfl rfl ?_
  refine x_V_I M_X12_thrown [] [] hs rfl dL_law_2048 (lkL_150 _ rfl) (lt_of hnx (Nat.le_of_ble_eq_true rfl)) rfl rfl (Nat.le_of_ble_eq_true rfl) (by omega) (by omega) (Nat.le_of_ble_eq_true rfl) (c_Mo_thrown (Nat.le_trans (Nat.le_of_ble_eq_true rfl) hnx) s384) (fun y385 hy385 hs => ?_)
  refine w_iload 1 dL_law_2051 rfl ?_
  refine x_icmpeq hs dL_law_2053 rfl (fun hs => ?_) (fun hs => ?_)
  · refine w_iload 1 dL_law_2058 rfl ?_
    refine x_ifne hs dL_law_2060 rfl (fun hs => ?_) (fun hs => ?_)
    · refine w_lv (lv' := [(0, .ref 1200), (1, .ref 0), (2, .ref 80), (3, .ref 100), (4, .ref 101), (5, vi x5)]) [2, 3, 4, 5, 6, 7] rfl ?_
      exact w_wid (by omega) (by omega) (q_La_law_b2075 hnx hnK x5 hL h5 s384 hs hb he0)
    · refine w_aload_n 5 dL_law_2063 rfl rfl ?_
      refine x_iconst dL_law_2064 ?_
      refine grd_e hs (fun hg386 hs => ?_)
      refine x_lald ⟨by decide, by decide⟩ (Nat.le_of_ble_eq_true rfl) dL_law_2065 rfl (lt_of hnx (Nat.le_of_ble_eq_true rfl)) ?_
      refine w_iload 0 dL_law_2066 rfl ?_
      refine grd_e hs (fun hg387 hs => ?_)
      refine x_i2l dL_law_2068 hg387 ?_
      refine grd_e hs (fun hg388 hs => ?_)
      refine x_lcmp dL_law_2069 hg388.1 hg388.2 ?_
      refine x_ifeq hs dL_law_2070 rfl (fun hs => ?_) (fun hs => ?_)
      · refine w_lv (lv' := [(0, .ref 1200), (1, .ref 0), (2, .ref 80), (3, .ref 100), (4, .ref 101), (5, vi x5)]) [2, 3, 4, 5, 6, 7] rfl ?_
        exact w_wid (by omega) (by omega) (q_La_law_b2075 hnx hnK x5 hL h5 s384 hs hb he0)
      · cases hs
  · cases hs
set_option maxRecDepth 100000 in
set_option maxHeartbeats 4000000 in
theorem q_La_law_b2078 {C : Cx} {nx : Nat} (hnx : 102 ≤ nx) (hnK : KN ≤ nx) {Qr : Option Value → Hp → Prop} {Qx : String → Hp → Prop}  (x5 : Int) (hL : xL C ≤ 2048) (h5 : 0 ≤ x5 ∧ x5 < (xL C : Int)) (s : Sg) {o : ((Int × Sg) ⊕ (Sg))} (hs : La_law_b2078 (xL C) x5 s = some o) (hb : ∀ σ : Int × Sg, o = .inl σ → ww C M_L_law 17 601024 7293034 nx (Qr) (Qx) nx (3 * σ.1.toNat + 1000) (18 * σ.1.toNat + 100000) 28 [(0, .ref 1200), (1, .ref 0), (2, .ref 80), (3, .ref 100), (4, .ref 101), (5, vi σ.1)] [] (hp nx σ.2)) (he0 : ∀ ρ : Sg, o = .inr ρ → ww C M_L_law 17 601024 7293034 nx (Qr) (Qx) nx 8000 150000 2713 [] [] (hp nx ρ)) : ww C M_L_law 17 601024 7293034 nx (Qr) (Qx) nx (3 * x5.toNat + 1000) (18 * x5.toNat + 100000) 2078 [(0, .ref 1200), (1, .ref 0), (2, .ref 80), (3, .ref 100), (4, .ref 101), (5, vi x5)] [] (hp nx s) := by
  unfold La_law_b2078 at hs
  refine w_aload_n 1 dL_law_2078 rfl rfl ?_
  refine w_aload_n 0 dL_law_2079 rfl rfl ?_
  refine w_iload 5 dL_law_2080 rfl ?_
  refine x_iconst dL_law_2082 ?_
  refine x_iadd dL_law_2083 ?_
  refine grd_e hs (fun hg391 hs => ?_)
  refine x_iald hg391 (Nat.le_trans hL (Nat.le_of_ble_eq_true rfl)) dL_law_2084 (Or.inr (List.mem_of_getElem? (i := 8) rfl)) ?_
  refine x_V_I M_X11_moveAt [vi (gi s 1200 (x5 + 1).toNat)] [] hs rfl dL_law_2085 (lkL_250 _ rfl) (lt_of hnx (Nat.le_of_ble_eq_true rfl)) rfl rfl (Nat.le_of_ble_eq_true rfl) (by omega) (by omega) (Nat.le_of_ble_eq_true rfl) (c_Hx_moveAt (Nat.le_trans (Nat.le_of_ble_eq_true rfl) hnx) (gi s 1200 (x5 + 1).toNat) s) (fun y392 hy392 hs => ?_)
  refine w_aload_n 2 dL_law_2088 rfl rfl ?_
  refine w_aload_n 0 dL_law_2089 rfl rfl ?_
  refine w_iload 5 dL_law_2090 rfl ?_
  refine x_iconst dL_law_2092 ?_
  refine x_iadd dL_law_2093 ?_
  refine grd_e hs (fun hg393 hs => ?_)
  refine x_iald hg393 (Nat.le_trans hL (Nat.le_of_ble_eq_true rfl)) dL_law_2094 (Or.inr (List.mem_of_getElem? (i := 8) rfl)) ?_
  refine x_V_B M_X12_moveAt [vi (gi s 1200 (x5 + 1).toNat)] [vi y392] hs rfl dL_law_2095 (lkL_253 _ rfl) (lt_of hnx (Nat.le_of_ble_eq_true rfl)) rfl rfl (Nat.le_of_ble_eq_true rfl) (by omega) (by omega) (Nat.le_of_ble_eq_true rfl) (c_Mo_moveAt (Nat.le_trans (Nat.le_of_ble_eq_true rfl) hnx) (gi s 1200 (x5 + 1).toNat) s) (fun y394 s395 hy394 hs => ?_)
  refine x_icmpeq hs dL_law_2098 rfl (fun hs => ?_) (fun hs => ?_)
  · exact w_wid (by omega) (by omega) (q_La_law_b2707 hnx hnK x5 hL h5 s395 hs hb he0)
  · cases hs
set_option maxRecDepth 100000 in
set_option maxHeartbeats 4000000 in
theorem q_La_law_b2156 {C : Cx} {nx : Nat} (hnx : 102 ≤ nx) (hnK : KN ≤ nx) {Qr : Option Value → Hp → Prop} {Qx : String → Hp → Prop}  (x5 : Int) (hL : xL C ≤ 2048) (h5 : 0 ≤ x5 ∧ x5 < (xL C : Int)) (s : Sg) {o : ((Int × Sg) ⊕ (Sg))} (hs : La_law_b2156 (xL C) x5 s = some o) (hb : ∀ σ : Int × Sg, o = .inl σ → ww C M_L_law 17 601024 7293034 nx (Qr) (Qx) nx (3 * σ.1.toNat + 1000) (18 * σ.1.toNat + 100000) 28 [(0, .ref 1200), (1, .ref 0), (2, .ref 80), (3, .ref 100), (4, .ref 101), (5, vi σ.1)] [] (hp nx σ.2)) (he0 : ∀ ρ : Sg, o = .inr ρ → ww C M_L_law 17 601024 7293034 nx (Qr) (Qx) nx 8000 150000 2713 [] [] (hp nx ρ)) : ww C M_L_law 17 601024 7293034 nx (Qr) (Qx) nx (3 * x5.toNat + 1003) (18 * x5.toNat + 100018) 2156 [(0, .ref 1200), (1, .ref 0), (2, .ref 80), (3, .ref 100), (4, .ref 101), (5, vi x5)] [] (hp nx s) := by
  unfold La_law_b2156 at hs
  refine w_goto dL_law_2156 rfl ?_
  exact w_wid (by omega) (by omega) (q_La_law_b2707 hnx hnK x5 hL h5 s hs hb he0)
set_option maxRecDepth 100000 in
set_option maxHeartbeats 4000000 in
theorem q_La_law_b2103 {C : Cx} {nx : Nat} (hnx : 102 ≤ nx) (hnK : KN ≤ nx) {Qr : Option Value → Hp → Prop} {Qx : String → Hp → Prop}  (x5 : Int) (hL : xL C ≤ 2048) (h5 : 0 ≤ x5 ∧ x5 < (xL C : Int)) (s : Sg) {o : ((Int × Sg) ⊕ (Sg))} (hs : La_law_b2103 (xL C) x5 s = some o) (hb : ∀ σ : Int × Sg, o = .inl σ → ww C M_L_law 17 601024 7293034 nx (Qr) (Qx) nx (3 * σ.1.toNat + 1000) (18 * σ.1.toNat + 100000) 28 [(0, .ref 1200), (1, .ref 0), (2, .ref 80), (3, .ref 100), (4, .ref 101), (5, vi σ.1)] [] (hp nx σ.2)) (he0 : ∀ ρ : Sg, o = .inr ρ → ww C M_L_law 17 601024 7293034 nx (Qr) (Qx) nx 8000 150000 2713 [] [] (hp nx ρ)) : ww C M_L_law 17 601024 7293034 nx (Qr) (Qx) nx (3 * x5.toNat + 1000) (18 * x5.toNat + 100000) 2103 [(0, .ref 1200), (1, .ref 0), (2, .ref 80), (3, .ref 100), (4, .ref 101), (5, vi x5)] [] (hp nx s) := by
  unfold La_law_b2103 at hs
  refine w_aload_n 1 dL_law_2103 rfl rfl ?_
  refine w_aload_n 0 dL_law_2104 rfl rfl ?_
  refine w_iload 5 dL_law_2105 rfl ?_
  refine x_iconst dL_law_2107 ?_
  refine x_iadd dL_law_2108 ?_
  refine grd_e hs (fun hg398 hs => ?_)
  refine x_iald hg398 (Nat.le_trans hL (Nat.le_of_ble_eq_true rfl)) dL_law_2109 (Or.inr (List.mem_of_getElem? (i := 8) rfl)) ?_
  refine w_aload_n 3 dL_law_2110 rfl rfl ?_
  refine x_SW_B M_L_move [.ref 0, vi (gi s 1200 (x5 + 1).toNat), .ref 100] [] (k2 := (3 * x5.toNat + 1003)) (n2 := (18 * x5.toNat + 100018)) hs rfl dL_law_2111 (lkL_254 _ rfl) (Nat.le_of_ble_eq_true rfl) (by omega) (by omega) (by omega) (by omega) (Nat.le_of_ble_eq_true rfl) (c_La_move hnx hnK (gi s 1200 (x5 + 1).toNat) s) (fun y399 s400 hy399 hs => ?_)
  refine w_istore (lv' := [(6, vi y399), (0, .ref 1200), (1, .ref 0), (2, .ref 80), (3, .ref 100), (4, .ref 101), (5, vi x5)]) dL_law_2114 (Nat.le_of_ble_eq_true rfl) rfl ?_
  refine w_aload_n 3 dL_law_2116 rfl rfl ?_
  refine w_aload_n 1 dL_law_2117 rfl rfl ?_
  refine w_iload 6 dL_law_2118 rfl ?_
  refine x_iconst dL_law_2120 ?_
  refine x_iadd dL_law_2121 ?_
  refine grd_e hs (fun hg401 hs => ?_)
  refine x_iald hg401 (Nat.le_trans hL (Nat.le_of_ble_eq_true rfl)) dL_law_2122 (Or.inr (List.mem_of_getElem? (i := 8) rfl)) ?_
  refine x_V_B M_X12_move [vi (gi s400 1200 (x5 + 1).toNat)] [] hs rfl dL_law_2123 (lkL_256 _ rfl) (lt_of hnx (Nat.le_of_ble_eq_true rfl)) rfl rfl (Nat.le_of_ble_eq_true rfl) (by omega) (by omega) (Nat.le_of_ble_eq_true rfl) (c_Mo_move (Nat.le_trans (Nat.le_of_ble_eq_true rfl) hnx) (gi s400 1200 (x5 + 1).toNat) s400) (fun y402 s403 hy402 hs => ?_)
  refine w_istore (lv' := [(7, vi y402), (6, vi y399), (0, .ref 1200), (1, .ref 0), (2, .ref 80), (3, .ref 100), (4, .ref 101), (5, vi x5)]) dL_law_2126 (Nat.le_of_ble_eq_true rfl) rfl ?_
  refine w_aload_n 4 dL_law_2128 rfl rfl ?_
  refine x_V_I M_X12_thrown [] [] hs rfl dL_law_2129 (lkL_150 _ rfl) (lt_of hnx (Nat.le_of_ble_eq_true rfl)) rfl rfl (Nat.le_of_ble_eq_true rfl) (by omega) (by omega) (Nat.le_of_ble_eq_true rfl) (c_Mo_thrown (Nat.le_trans (Nat.le_of_ble_eq_true rfl) hnx) s403) (fun y404 hy404 hs => ?_)
  refine w_iload 1 dL_law_2132 rfl ?_
  refine x_icmpeq hs dL_law_2134 rfl (fun hs => ?_) (fun hs => ?_)
  · refine w_iload 1 dL_law_2139 rfl ?_
    refine x_ifne hs dL_law_2141 rfl (fun hs => ?_) (fun hs => ?_)
    · refine w_lv (lv' := [(0, .ref 1200), (1, .ref 0), (2, .ref 80), (3, .ref 100), (4, .ref 101), (5, vi x5)]) [2, 3, 4, 5, 6, 7] rfl ?_
      exact w_wid (by omega) (by omega) (q_La_law_b2156 hnx hnK x5 hL h5 s403 hs hb he0)
    · refine w_aload_n 5 dL_law_2144 rfl rfl ?_
      refine x_iconst dL_law_2145 ?_
      refine grd_e hs (fun hg405 hs => ?_)
      refine x_lald ⟨by decide, by decide⟩ (Nat.le_of_ble_eq_true rfl) dL_law_2146 rfl (lt_of hnx (Nat.le_of_ble_eq_true rfl)) ?_
      refine w_iload 0 dL_law_2147 rfl ?_
      refine grd_e hs (fun hg406 hs => ?_)
      refine x_i2l dL_law_2149 hg406 ?_
      refine grd_e hs (fun hg407 hs => ?_)
      refine x_lcmp dL_law_2150 hg407.1 hg407.2 ?_
      refine x_ifeq hs dL_law_2151 rfl (fun hs => ?_) (fun hs => ?_)
      · refine w_lv (lv' := [(0, .ref 1200), (1, .ref 0), (2, .ref 80), (3, .ref 100), (4, .ref 101), (5, vi x5)]) [2, 3, 4, 5, 6, 7] rfl ?_
        exact w_wid (by omega) (by omega) (q_La_law_b2156 hnx hnK x5 hL h5 s403 hs hb he0)
      · cases hs
  · cases hs
set_option maxRecDepth 100000 in
set_option maxHeartbeats 4000000 in
theorem q_La_law_b2159 {C : Cx} {nx : Nat} (hnx : 102 ≤ nx) (hnK : KN ≤ nx) {Qr : Option Value → Hp → Prop} {Qx : String → Hp → Prop}  (x5 : Int) (hL : xL C ≤ 2048) (h5 : 0 ≤ x5 ∧ x5 < (xL C : Int)) (s : Sg) {o : ((Int × Sg) ⊕ (Sg))} (hs : La_law_b2159 (xL C) x5 s = some o) (hb : ∀ σ : Int × Sg, o = .inl σ → ww C M_L_law 17 601024 7293034 nx (Qr) (Qx) nx (3 * σ.1.toNat + 1000) (18 * σ.1.toNat + 100000) 28 [(0, .ref 1200), (1, .ref 0), (2, .ref 80), (3, .ref 100), (4, .ref 101), (5, vi σ.1)] [] (hp nx σ.2)) (he0 : ∀ ρ : Sg, o = .inr ρ → ww C M_L_law 17 601024 7293034 nx (Qr) (Qx) nx 8000 150000 2713 [] [] (hp nx ρ)) : ww C M_L_law 17 601024 7293034 nx (Qr) (Qx) nx (3 * x5.toNat + 1000) (18 * x5.toNat + 100000) 2159 [(0, .ref 1200), (1, .ref 0), (2, .ref 80), (3, .ref 100), (4, .ref 101), (5, vi x5)] [] (hp nx s) := by
  unfold La_law_b2159 at hs
  refine w_aload_n 1 dL_law_2159 rfl rfl ?_
  refine x_V_B M_X11_swap [] [] hs rfl dL_law_2160 (lkL_257 _ rfl) (lt_of hnx (Nat.le_of_ble_eq_true rfl)) rfl rfl (Nat.le_of_ble_eq_true rfl) (by omega) (by omega) (Nat.le_of_ble_eq_true rfl) (c_Hx_swap (Nat.le_trans (Nat.le_of_ble_eq_true rfl) hnx) hnK s) (fun y410 s411 hy410 hs => ?_)
  refine w_aload_n 2 dL_law_2163 rfl rfl ?_
  refine x_V_B M_X12_swap [] [vi y410] hs rfl dL_law_2164 (lkL_260 _ rfl) (lt_of hnx (Nat.le_of_ble_eq_true rfl)) rfl rfl (Nat.le_of_ble_eq_true rfl) (by omega) (by omega) (Nat.le_of_ble_eq_true rfl) (c_Mo_swap (Nat.le_trans (Nat.le_of_ble_eq_true rfl) hnx) s411) (fun y412 s413 hy412 hs => ?_)
  refine x_icmpeq hs dL_law_2167 rfl (fun hs => ?_) (fun hs => ?_)
  · exact w_wid (by omega) (by omega) (q_La_law_b2707 hnx hnK x5 hL h5 s413 hs hb he0)
  · cases hs
set_option maxRecDepth 100000 in
set_option maxHeartbeats 4000000 in
theorem q_La_law_b2172 {C : Cx} {nx : Nat} (hnx : 102 ≤ nx) (hnK : KN ≤ nx) {Qr : Option Value → Hp → Prop} {Qx : String → Hp → Prop}  (x5 : Int) (hL : xL C ≤ 2048) (h5 : 0 ≤ x5 ∧ x5 < (xL C : Int)) (s : Sg) {o : ((Int × Sg) ⊕ (Sg))} (hs : La_law_b2172 (xL C) x5 s = some o) (hb : ∀ σ : Int × Sg, o = .inl σ → ww C M_L_law 17 601024 7293034 nx (Qr) (Qx) nx (3 * σ.1.toNat + 1000) (18 * σ.1.toNat + 100000) 28 [(0, .ref 1200), (1, .ref 0), (2, .ref 80), (3, .ref 100), (4, .ref 101), (5, vi σ.1)] [] (hp nx σ.2)) (he0 : ∀ ρ : Sg, o = .inr ρ → ww C M_L_law 17 601024 7293034 nx (Qr) (Qx) nx 8000 150000 2713 [] [] (hp nx ρ)) : ww C M_L_law 17 601024 7293034 nx (Qr) (Qx) nx (3 * x5.toNat + 1000) (18 * x5.toNat + 100000) 2172 [(0, .ref 1200), (1, .ref 0), (2, .ref 80), (3, .ref 100), (4, .ref 101), (5, vi x5)] [] (hp nx s) := by
  unfold La_law_b2172 at hs
  refine w_aload_n 1 dL_law_2172 rfl rfl ?_
  refine x_V_B M_X11_giveUp [] [] hs rfl dL_law_2173 (lkL_261 _ rfl) (lt_of hnx (Nat.le_of_ble_eq_true rfl)) rfl rfl (Nat.le_of_ble_eq_true rfl) (by omega) (by omega) (Nat.le_of_ble_eq_true rfl) (c_Hx_giveUp (Nat.le_trans (Nat.le_of_ble_eq_true rfl) hnx) hnK s) (fun y416 s417 hy416 hs => ?_)
  refine w_aload_n 2 dL_law_2176 rfl rfl ?_
  refine x_V_B M_X12_giveUp [] [vi y416] hs rfl dL_law_2177 (lkL_264 _ rfl) (lt_of hnx (Nat.le_of_ble_eq_true rfl)) rfl rfl (Nat.le_of_ble_eq_true rfl) (by omega) (by omega) (Nat.le_of_ble_eq_true rfl) (c_Mo_giveUp (Nat.le_trans (Nat.le_of_ble_eq_true rfl) hnx) s417) (fun y418 s419 hy418 hs => ?_)
  refine x_icmpeq hs dL_law_2180 rfl (fun hs => ?_) (fun hs => ?_)
  · exact w_wid (by omega) (by omega) (q_La_law_b2707 hnx hnK x5 hL h5 s419 hs hb he0)
  · cases hs
set_option maxRecDepth 100000 in
set_option maxHeartbeats 4000000 in
theorem q_La_law_b2250 {C : Cx} {nx : Nat} (hnx : 102 ≤ nx) (hnK : KN ≤ nx) {Qr : Option Value → Hp → Prop} {Qx : String → Hp → Prop}  (x5 : Int) (hL : xL C ≤ 2048) (h5 : 0 ≤ x5 ∧ x5 < (xL C : Int)) (s : Sg) {o : ((Int × Sg) ⊕ (Sg))} (hs : La_law_b2250 (xL C) x5 s = some o) (hb : ∀ σ : Int × Sg, o = .inl σ → ww C M_L_law 17 601024 7293034 nx (Qr) (Qx) nx (3 * σ.1.toNat + 1000) (18 * σ.1.toNat + 100000) 28 [(0, .ref 1200), (1, .ref 0), (2, .ref 80), (3, .ref 100), (4, .ref 101), (5, vi σ.1)] [] (hp nx σ.2)) (he0 : ∀ ρ : Sg, o = .inr ρ → ww C M_L_law 17 601024 7293034 nx (Qr) (Qx) nx 8000 150000 2713 [] [] (hp nx ρ)) : ww C M_L_law 17 601024 7293034 nx (Qr) (Qx) nx (3 * x5.toNat + 1003) (18 * x5.toNat + 100018) 2250 [(0, .ref 1200), (1, .ref 0), (2, .ref 80), (3, .ref 100), (4, .ref 101), (5, vi x5)] [] (hp nx s) := by
  unfold La_law_b2250 at hs
  refine w_goto dL_law_2250 rfl ?_
  exact w_wid (by omega) (by omega) (q_La_law_b2707 hnx hnK x5 hL h5 s hs hb he0)
set_option maxRecDepth 100000 in
set_option maxHeartbeats 4000000 in
theorem q_La_law_b2185 {C : Cx} {nx : Nat} (hnx : 102 ≤ nx) (hnK : KN ≤ nx) {Qr : Option Value → Hp → Prop} {Qx : String → Hp → Prop}  (x5 : Int) (hL : xL C ≤ 2048) (h5 : 0 ≤ x5 ∧ x5 < (xL C : Int)) (s : Sg) {o : ((Int × Sg) ⊕ (Sg))} (hs : La_law_b2185 (xL C) x5 s = some o) (hb : ∀ σ : Int × Sg, o = .inl σ → ww C M_L_law 17 601024 7293034 nx (Qr) (Qx) nx (3 * σ.1.toNat + 1000) (18 * σ.1.toNat + 100000) 28 [(0, .ref 1200), (1, .ref 0), (2, .ref 80), (3, .ref 100), (4, .ref 101), (5, vi σ.1)] [] (hp nx σ.2)) (he0 : ∀ ρ : Sg, o = .inr ρ → ww C M_L_law 17 601024 7293034 nx (Qr) (Qx) nx 8000 150000 2713 [] [] (hp nx ρ)) : ww C M_L_law 17 601024 7293034 nx (Qr) (Qx) nx (3 * x5.toNat + 1000) (18 * x5.toNat + 100000) 2185 [(0, .ref 1200), (1, .ref 0), (2, .ref 80), (3, .ref 100), (4, .ref 101), (5, vi x5)] [] (hp nx s) := by
  unfold La_law_b2185 at hs
  refine w_aload_n 1 dL_law_2185 rfl rfl ?_
  refine w_aload_n 0 dL_law_2186 rfl rfl ?_
  refine w_iload 5 dL_law_2187 rfl ?_
  refine x_iconst dL_law_2189 ?_
  refine x_iadd dL_law_2190 ?_
  refine grd_e hs (fun hg422 hs => ?_)
  refine x_iald hg422 (Nat.le_trans hL (Nat.le_of_ble_eq_true rfl)) dL_law_2191 (Or.inr (List.mem_of_getElem? (i := 8) rfl)) ?_
  refine w_aload_n 0 dL_law_2192 rfl rfl ?_
  refine w_iload 5 dL_law_2193 rfl ?_
  refine x_iconst dL_law_2195 ?_
  refine x_iadd dL_law_2196 ?_
  refine grd_e hs (fun hg423 hs => ?_)
  refine x_iald hg423 (Nat.le_trans hL (Nat.le_of_ble_eq_true rfl)) dL_law_2197 (Or.inr (List.mem_of_getElem? (i := 8) rfl)) ?_
  refine w_aload_n 3 dL_law_2198 rfl rfl ?_
  refine x_SW_B M_L_put [.ref 0, vi (gi s 1200 (x5 + 1).toNat), vi (gi s 1200 (x5 + 2).toNat), .ref 100] [] (k2 := (3 * x5.toNat + 1003)) (n2 := (18 * x5.toNat + 100018)) hs rfl dL_law_2199 (lkL_265 _ rfl) (Nat.le_of_ble_eq_true rfl) (by omega) (by omega) (by omega) (by omega) (Nat.le_of_ble_eq_true rfl) (c_La_put hnx hnK (gi s 1200 (x5 + 1).toNat) (gi s 1200 (x5 + 2).toNat) s) (fun y424 s425 hy424 hs => ?_)
  refine w_istore (lv' := [(6, vi y424), (0, .ref 1200), (1, .ref 0), (2, .ref 80), (3, .ref 100), (4, .ref 101), (5, vi x5)]) dL_law_2202 (Nat.le_of_ble_eq_true rfl) rfl ?_
  refine w_aload_n 3 dL_law_2204 rfl rfl ?_
  refine w_aload_n 1 dL_law_2205 rfl rfl ?_
  refine w_iload 6 dL_law_2206 rfl ?_
  refine x_iconst dL_law_2208 ?_
  refine x_iadd dL_law_2209 ?_
  refine grd_e hs (fun hg426 hs => ?_)
  refine x_iald hg426 (Nat.le_trans hL (Nat.le_of_ble_eq_true rfl)) dL_law_2210 (Or.inr (List.mem_of_getElem? (i := 8) rfl)) ?_
  refine w_aload_n 1 dL_law_2211 rfl rfl ?_
  refine w_iload 6 dL_law_2212 rfl ?_
  refine x_iconst dL_law_2214 ?_
  refine x_iadd dL_law_2215 ?_
  refine grd_e hs (fun hg427 hs => ?_)
  refine x_iald hg427 (Nat.le_trans hL (Nat.le_of_ble_eq_true rfl)) dL_law_2216 (Or.inr (List.mem_of_getElem? (i := 8) rfl)) ?_
  refine x_V_B M_X12_put [vi (gi s425 1200 (x5 + 1).toNat), vi (gi s425 1200 (x5 + 2).toNat)] [] hs rfl dL_law_2217 (lkL_267 _ rfl) (lt_of hnx (Nat.le_of_ble_eq_true rfl)) rfl rfl (Nat.le_of_ble_eq_true rfl) (by omega) (by omega) (Nat.le_of_ble_eq_true rfl) (c_Mo_put (Nat.le_trans (Nat.le_of_ble_eq_true rfl) hnx) (gi s425 1200 (x5 + 1).toNat) (gi s425 1200 (x5 + 2).toNat) s425) (fun y428 s429 hy428 hs => ?_)
  refine w_istore (lv' := [(7, vi y428), (6, vi y424), (0, .ref 1200), (1, .ref 0), (2, .ref 80), (3, .ref 100), (4, .ref 101), (5, vi x5)]) dL_law_2220 (Nat.le_of_ble_eq_true rfl) rfl ?_
  refine w_aload_n 4 dL_law_2222 rfl rfl ?_
  refine x_V_I M_X12_thrown [] [] hs rfl dL_law_2223 (lkL_150 _ rfl) (lt_of hnx (Nat.le_of_ble_eq_true rfl)) rfl rfl (Nat.le_of_ble_eq_true rfl) (by omega) (by omega) (Nat.le_of_ble_eq_true rfl) (c_Mo_thrown (Nat.le_trans (Nat.le_of_ble_eq_true rfl) hnx) s429) (fun y430 hy430 hs => ?_)
  refine w_iload 1 dL_law_2226 rfl ?_
  refine x_icmpeq hs dL_law_2228 rfl (fun hs => ?_) (fun hs => ?_)
  · refine w_iload 1 dL_law_2233 rfl ?_
    refine x_ifne hs dL_law_2235 rfl (fun hs => ?_) (fun hs => ?_)
    · refine w_lv (lv' := [(0, .ref 1200), (1, .ref 0), (2, .ref 80), (3, .ref 100), (4, .ref 101), (5, vi x5)]) [2, 3, 4, 5, 6, 7] rfl ?_
      exact w_wid (by omega) (by omega) (q_La_law_b2250 hnx hnK x5 hL h5 s429 hs hb he0)
    · refine w_aload_n 5 dL_law_2238 rfl rfl ?_
      refine x_iconst dL_law_2239 ?_
      refine grd_e hs (fun hg431 hs => ?_)
      refine x_lald ⟨by decide, by decide⟩ (Nat.le_of_ble_eq_true rfl) dL_law_2240 rfl (lt_of hnx (Nat.le_of_ble_eq_true rfl)) ?_
      refine w_iload 0 dL_law_2241 rfl ?_
      refine grd_e hs (fun hg432 hs => ?_)
      refine x_i2l dL_law_2243 hg432 ?_
      refine grd_e hs (fun hg433 hs => ?_)
      refine x_lcmp dL_law_2244 hg433.1 hg433.2 ?_
      refine x_ifeq hs dL_law_2245 rfl (fun hs => ?_) (fun hs => ?_)
      · refine w_lv (lv' := [(0, .ref 1200), (1, .ref 0), (2, .ref 80), (3, .ref 100), (4, .ref 101), (5, vi x5)]) [2, 3, 4, 5, 6, 7] rfl ?_
        exact w_wid (by omega) (by omega) (q_La_law_b2250 hnx hnK x5 hL h5 s429 hs hb he0)
      · cases hs
  · cases hs
set_option maxRecDepth 100000 in
set_option maxHeartbeats 4000000 in
theorem q_La_law_b2306 {C : Cx} {nx : Nat} (hnx : 102 ≤ nx) (hnK : KN ≤ nx) {Qr : Option Value → Hp → Prop} {Qx : String → Hp → Prop}  (x5 : Int) (hL : xL C ≤ 2048) (h5 : 0 ≤ x5 ∧ x5 < (xL C : Int)) (s : Sg) {o : ((Int × Sg) ⊕ (Sg))} (hs : La_law_b2306 (xL C) x5 s = some o) (hb : ∀ σ : Int × Sg, o = .inl σ → ww C M_L_law 17 601024 7293034 nx (Qr) (Qx) nx (3 * σ.1.toNat + 1000) (18 * σ.1.toNat + 100000) 28 [(0, .ref 1200), (1, .ref 0), (2, .ref 80), (3, .ref 100), (4, .ref 101), (5, vi σ.1)] [] (hp nx σ.2)) (he0 : ∀ ρ : Sg, o = .inr ρ → ww C M_L_law 17 601024 7293034 nx (Qr) (Qx) nx 8000 150000 2713 [] [] (hp nx ρ)) : ww C M_L_law 17 601024 7293034 nx (Qr) (Qx) nx (3 * x5.toNat + 1003) (18 * x5.toNat + 100018) 2306 [(0, .ref 1200), (1, .ref 0), (2, .ref 80), (3, .ref 100), (4, .ref 101), (5, vi x5)] [] (hp nx s) := by
  unfold La_law_b2306 at hs
  refine w_goto dL_law_2306 rfl ?_
  exact w_wid (by omega) (by omega) (q_La_law_b2707 hnx hnK x5 hL h5 s hs hb he0)
set_option maxRecDepth 100000 in
set_option maxHeartbeats 4000000 in
theorem q_La_law_b2253 {C : Cx} {nx : Nat} (hnx : 102 ≤ nx) (hnK : KN ≤ nx) {Qr : Option Value → Hp → Prop} {Qx : String → Hp → Prop}  (x5 : Int) (hL : xL C ≤ 2048) (h5 : 0 ≤ x5 ∧ x5 < (xL C : Int)) (s : Sg) {o : ((Int × Sg) ⊕ (Sg))} (hs : La_law_b2253 (xL C) x5 s = some o) (hb : ∀ σ : Int × Sg, o = .inl σ → ww C M_L_law 17 601024 7293034 nx (Qr) (Qx) nx (3 * σ.1.toNat + 1000) (18 * σ.1.toNat + 100000) 28 [(0, .ref 1200), (1, .ref 0), (2, .ref 80), (3, .ref 100), (4, .ref 101), (5, vi σ.1)] [] (hp nx σ.2)) (he0 : ∀ ρ : Sg, o = .inr ρ → ww C M_L_law 17 601024 7293034 nx (Qr) (Qx) nx 8000 150000 2713 [] [] (hp nx ρ)) : ww C M_L_law 17 601024 7293034 nx (Qr) (Qx) nx (3 * x5.toNat + 1000) (18 * x5.toNat + 100000) 2253 [(0, .ref 1200), (1, .ref 0), (2, .ref 80), (3, .ref 100), (4, .ref 101), (5, vi x5)] [] (hp nx s) := by
  unfold La_law_b2253 at hs
  refine w_aload_n 1 dL_law_2253 rfl rfl ?_
  refine w_aload_n 0 dL_law_2254 rfl rfl ?_
  refine w_iload 5 dL_law_2255 rfl ?_
  refine x_iconst dL_law_2257 ?_
  refine x_iadd dL_law_2258 ?_
  refine grd_e hs (fun hg436 hs => ?_)
  refine x_iald hg436 (Nat.le_trans hL (Nat.le_of_ble_eq_true rfl)) dL_law_2259 (Or.inr (List.mem_of_getElem? (i := 8) rfl)) ?_
  refine w_aload_n 3 dL_law_2260 rfl rfl ?_
  refine x_SW_B M_L_setTurn [.ref 0, vi (gi s 1200 (x5 + 1).toNat), .ref 100] [] (k2 := (3 * x5.toNat + 1003)) (n2 := (18 * x5.toNat + 100018)) hs rfl dL_law_2261 (lkL_268 _ rfl) (Nat.le_of_ble_eq_true rfl) (by omega) (by omega) (by omega) (by omega) (Nat.le_of_ble_eq_true rfl) (c_La_setTurn hnx hnK (gi s 1200 (x5 + 1).toNat) s) (fun y437 s438 hy437 hs => ?_)
  refine w_istore (lv' := [(6, vi y437), (0, .ref 1200), (1, .ref 0), (2, .ref 80), (3, .ref 100), (4, .ref 101), (5, vi x5)]) dL_law_2264 (Nat.le_of_ble_eq_true rfl) rfl ?_
  refine w_aload_n 3 dL_law_2266 rfl rfl ?_
  refine w_aload_n 1 dL_law_2267 rfl rfl ?_
  refine w_iload 6 dL_law_2268 rfl ?_
  refine x_iconst dL_law_2270 ?_
  refine x_iadd dL_law_2271 ?_
  refine grd_e hs (fun hg439 hs => ?_)
  refine x_iald hg439 (Nat.le_trans hL (Nat.le_of_ble_eq_true rfl)) dL_law_2272 (Or.inr (List.mem_of_getElem? (i := 8) rfl)) ?_
  refine x_V_B M_X12_setTurn [vi (gi s438 1200 (x5 + 1).toNat)] [] hs rfl dL_law_2273 (lkL_270 _ rfl) (lt_of hnx (Nat.le_of_ble_eq_true rfl)) rfl rfl (Nat.le_of_ble_eq_true rfl) (by omega) (by omega) (Nat.le_of_ble_eq_true rfl) (c_Mo_setTurn (Nat.le_trans (Nat.le_of_ble_eq_true rfl) hnx) (gi s438 1200 (x5 + 1).toNat) s438) (fun y440 s441 hy440 hs => ?_)
  refine w_istore (lv' := [(7, vi y440), (6, vi y437), (0, .ref 1200), (1, .ref 0), (2, .ref 80), (3, .ref 100), (4, .ref 101), (5, vi x5)]) dL_law_2276 (Nat.le_of_ble_eq_true rfl) rfl ?_
  refine w_aload_n 4 dL_law_2278 rfl rfl ?_
  refine x_V_I M_X12_thrown [] [] hs rfl dL_law_2279 (lkL_150 _ rfl) (lt_of hnx (Nat.le_of_ble_eq_true rfl)) rfl rfl (Nat.le_of_ble_eq_true rfl) (by omega) (by omega) (Nat.le_of_ble_eq_true rfl) (c_Mo_thrown (Nat.le_trans (Nat.le_of_ble_eq_true rfl) hnx) s441) (fun y442 hy442 hs => ?_)
  refine w_iload 1 dL_law_2282 rfl ?_
  refine x_icmpeq hs dL_law_2284 rfl (fun hs => ?_) (fun hs => ?_)
  · refine w_iload 1 dL_law_2289 rfl ?_
    refine x_ifne hs dL_law_2291 rfl (fun hs => ?_) (fun hs => ?_)
    · refine w_lv (lv' := [(0, .ref 1200), (1, .ref 0), (2, .ref 80), (3, .ref 100), (4, .ref 101), (5, vi x5)]) [2, 3, 4, 5, 6, 7] rfl ?_
      exact w_wid (by omega) (by omega) (q_La_law_b2306 hnx hnK x5 hL h5 s441 hs hb he0)
    · refine w_aload_n 5 dL_law_2294 rfl rfl ?_
      refine x_iconst dL_law_2295 ?_
      refine grd_e hs (fun hg443 hs => ?_)
      refine x_lald ⟨by decide, by decide⟩ (Nat.le_of_ble_eq_true rfl) dL_law_2296 rfl (lt_of hnx (Nat.le_of_ble_eq_true rfl)) ?_
      refine w_iload 0 dL_law_2297 rfl ?_
      refine grd_e hs (fun hg444 hs => ?_)
      refine x_i2l dL_law_2299 hg444 ?_
      refine grd_e hs (fun hg445 hs => ?_)
      refine x_lcmp dL_law_2300 hg445.1 hg445.2 ?_
      refine x_ifeq hs dL_law_2301 rfl (fun hs => ?_) (fun hs => ?_)
      · refine w_lv (lv' := [(0, .ref 1200), (1, .ref 0), (2, .ref 80), (3, .ref 100), (4, .ref 101), (5, vi x5)]) [2, 3, 4, 5, 6, 7] rfl ?_
        exact w_wid (by omega) (by omega) (q_La_law_b2306 hnx hnK x5 hL h5 s441 hs hb he0)
      · cases hs
  · cases hs
set_option maxRecDepth 100000 in
set_option maxHeartbeats 4000000 in
theorem q_La_law_b2309 {C : Cx} {nx : Nat} (hnx : 102 ≤ nx) (hnK : KN ≤ nx) {Qr : Option Value → Hp → Prop} {Qx : String → Hp → Prop}  (x5 : Int) (hL : xL C ≤ 2048) (h5 : 0 ≤ x5 ∧ x5 < (xL C : Int)) (s : Sg) {o : ((Int × Sg) ⊕ (Sg))} (hs : La_law_b2309 (xL C) x5 s = some o) (hb : ∀ σ : Int × Sg, o = .inl σ → ww C M_L_law 17 601024 7293034 nx (Qr) (Qx) nx (3 * σ.1.toNat + 1000) (18 * σ.1.toNat + 100000) 28 [(0, .ref 1200), (1, .ref 0), (2, .ref 80), (3, .ref 100), (4, .ref 101), (5, vi σ.1)] [] (hp nx σ.2)) (he0 : ∀ ρ : Sg, o = .inr ρ → ww C M_L_law 17 601024 7293034 nx (Qr) (Qx) nx 8000 150000 2713 [] [] (hp nx ρ)) : ww C M_L_law 17 601024 7293034 nx (Qr) (Qx) nx (3 * x5.toNat + 1000) (18 * x5.toNat + 100000) 2309 [(0, .ref 1200), (1, .ref 0), (2, .ref 80), (3, .ref 100), (4, .ref 101), (5, vi x5)] [] (hp nx s) := by
  unfold La_law_b2309 at hs
  refine w_aload_n 1 dL_law_2309 rfl rfl ?_
  refine x_V_B M_X11_turnOver [] [] hs rfl dL_law_2310 (lkL_271 _ rfl) (lt_of hnx (Nat.le_of_ble_eq_true rfl)) rfl rfl (Nat.le_of_ble_eq_true rfl) (by omega) (by omega) (Nat.le_of_ble_eq_true rfl) (c_Hx_turnOver (Nat.le_trans (Nat.le_of_ble_eq_true rfl) hnx) hnK s) (fun y448 s449 hy448 hs => ?_)
  refine w_aload_n 2 dL_law_2313 rfl rfl ?_
  refine x_V_B M_X12_turnOver [] [vi y448] hs rfl dL_law_2314 (lkL_274 _ rfl) (lt_of hnx (Nat.le_of_ble_eq_true rfl)) rfl rfl (Nat.le_of_ble_eq_true rfl) (by omega) (by omega) (Nat.le_of_ble_eq_true rfl) (c_Mo_turnOver (Nat.le_trans (Nat.le_of_ble_eq_true rfl) hnx) s449) (fun y450 s451 hy450 hs => ?_)
  refine x_icmpeq hs dL_law_2317 rfl (fun hs => ?_) (fun hs => ?_)
  · exact w_wid (by omega) (by omega) (q_La_law_b2707 hnx hnK x5 hL h5 s451 hs hb he0)
  · cases hs
set_option maxRecDepth 100000 in
set_option maxHeartbeats 4000000 in
theorem q_La_law_b2375 {C : Cx} {nx : Nat} (hnx : 102 ≤ nx) (hnK : KN ≤ nx) {Qr : Option Value → Hp → Prop} {Qx : String → Hp → Prop}  (x5 : Int) (hL : xL C ≤ 2048) (h5 : 0 ≤ x5 ∧ x5 < (xL C : Int)) (s : Sg) {o : ((Int × Sg) ⊕ (Sg))} (hs : La_law_b2375 (xL C) x5 s = some o) (hb : ∀ σ : Int × Sg, o = .inl σ → ww C M_L_law 17 601024 7293034 nx (Qr) (Qx) nx (3 * σ.1.toNat + 1000) (18 * σ.1.toNat + 100000) 28 [(0, .ref 1200), (1, .ref 0), (2, .ref 80), (3, .ref 100), (4, .ref 101), (5, vi σ.1)] [] (hp nx σ.2)) (he0 : ∀ ρ : Sg, o = .inr ρ → ww C M_L_law 17 601024 7293034 nx (Qr) (Qx) nx 8000 150000 2713 [] [] (hp nx ρ)) : ww C M_L_law 17 601024 7293034 nx (Qr) (Qx) nx (3 * x5.toNat + 1003) (18 * x5.toNat + 100018) 2375 [(0, .ref 1200), (1, .ref 0), (2, .ref 80), (3, .ref 100), (4, .ref 101), (5, vi x5)] [] (hp nx s) := by
  unfold La_law_b2375 at hs
  refine w_goto dL_law_2375 rfl ?_
  exact w_wid (by omega) (by omega) (q_La_law_b2707 hnx hnK x5 hL h5 s hs hb he0)
set_option maxRecDepth 100000 in
set_option maxHeartbeats 4000000 in
theorem q_La_law_b2322 {C : Cx} {nx : Nat} (hnx : 102 ≤ nx) (hnK : KN ≤ nx) {Qr : Option Value → Hp → Prop} {Qx : String → Hp → Prop}  (x5 : Int) (hL : xL C ≤ 2048) (h5 : 0 ≤ x5 ∧ x5 < (xL C : Int)) (s : Sg) {o : ((Int × Sg) ⊕ (Sg))} (hs : La_law_b2322 (xL C) x5 s = some o) (hb : ∀ σ : Int × Sg, o = .inl σ → ww C M_L_law 17 601024 7293034 nx (Qr) (Qx) nx (3 * σ.1.toNat + 1000) (18 * σ.1.toNat + 100000) 28 [(0, .ref 1200), (1, .ref 0), (2, .ref 80), (3, .ref 100), (4, .ref 101), (5, vi σ.1)] [] (hp nx σ.2)) (he0 : ∀ ρ : Sg, o = .inr ρ → ww C M_L_law 17 601024 7293034 nx (Qr) (Qx) nx 8000 150000 2713 [] [] (hp nx ρ)) : ww C M_L_law 17 601024 7293034 nx (Qr) (Qx) nx (3 * x5.toNat + 1000) (18 * x5.toNat + 100000) 2322 [(0, .ref 1200), (1, .ref 0), (2, .ref 80), (3, .ref 100), (4, .ref 101), (5, vi x5)] [] (hp nx s) := by
  unfold La_law_b2322 at hs
  refine w_aload_n 1 dL_law_2322 rfl rfl ?_
  refine w_aload_n 0 dL_law_2323 rfl rfl ?_
  refine w_iload 5 dL_law_2324 rfl ?_
  refine x_iconst dL_law_2326 ?_
  refine x_iadd dL_law_2327 ?_
  refine grd_e hs (fun hg454 hs => ?_)
  refine x_iald hg454 (Nat.le_trans hL (Nat.le_of_ble_eq_true rfl)) dL_law_2328 (Or.inr (List.mem_of_getElem? (i := 8) rfl)) ?_
  refine w_aload_n 3 dL_law_2329 rfl rfl ?_
  refine x_SW_B M_L_playForced [.ref 0, vi (gi s 1200 (x5 + 1).toNat), .ref 100] [] (k2 := (3 * x5.toNat + 1003)) (n2 := (18 * x5.toNat + 100018)) hs rfl dL_law_2330 (lkL_275 _ rfl) (Nat.le_of_ble_eq_true rfl) (by omega) (by omega) (by omega) (by omega) (Nat.le_of_ble_eq_true rfl) (c_La_playForced hnx hnK (gi s 1200 (x5 + 1).toNat) s) (fun y455 s456 hy455 hs => ?_)
  refine w_istore (lv' := [(6, vi y455), (0, .ref 1200), (1, .ref 0), (2, .ref 80), (3, .ref 100), (4, .ref 101), (5, vi x5)]) dL_law_2333 (Nat.le_of_ble_eq_true rfl) rfl ?_
  refine w_aload_n 3 dL_law_2335 rfl rfl ?_
  refine w_aload_n 1 dL_law_2336 rfl rfl ?_
  refine w_iload 6 dL_law_2337 rfl ?_
  refine x_iconst dL_law_2339 ?_
  refine x_iadd dL_law_2340 ?_
  refine grd_e hs (fun hg457 hs => ?_)
  refine x_iald hg457 (Nat.le_trans hL (Nat.le_of_ble_eq_true rfl)) dL_law_2341 (Or.inr (List.mem_of_getElem? (i := 8) rfl)) ?_
  refine x_V_B M_X12_playForced [vi (gi s456 1200 (x5 + 1).toNat)] [] hs rfl dL_law_2342 (lkL_277 _ rfl) (lt_of hnx (Nat.le_of_ble_eq_true rfl)) rfl rfl (Nat.le_of_ble_eq_true rfl) (by omega) (by omega) (Nat.le_of_ble_eq_true rfl) (c_Mo_playForced (Nat.le_trans (Nat.le_of_ble_eq_true rfl) hnx) (gi s456 1200 (x5 + 1).toNat) s456) (fun y458 s459 hy458 hs => ?_)
  refine w_istore (lv' := [(7, vi y458), (6, vi y455), (0, .ref 1200), (1, .ref 0), (2, .ref 80), (3, .ref 100), (4, .ref 101), (5, vi x5)]) dL_law_2345 (Nat.le_of_ble_eq_true rfl) rfl ?_
  refine w_aload_n 4 dL_law_2347 rfl rfl ?_
  refine x_V_I M_X12_thrown [] [] hs rfl dL_law_2348 (lkL_150 _ rfl) (lt_of hnx (Nat.le_of_ble_eq_true rfl)) rfl rfl (Nat.le_of_ble_eq_true rfl) (by omega) (by omega) (Nat.le_of_ble_eq_true rfl) (c_Mo_thrown (Nat.le_trans (Nat.le_of_ble_eq_true rfl) hnx) s459) (fun y460 hy460 hs => ?_)
  refine w_iload 1 dL_law_2351 rfl ?_
  refine x_icmpeq hs dL_law_2353 rfl (fun hs => ?_) (fun hs => ?_)
  · refine w_iload 1 dL_law_2358 rfl ?_
    refine x_ifne hs dL_law_2360 rfl (fun hs => ?_) (fun hs => ?_)
    · refine w_lv (lv' := [(0, .ref 1200), (1, .ref 0), (2, .ref 80), (3, .ref 100), (4, .ref 101), (5, vi x5)]) [2, 3, 4, 5, 6, 7] rfl ?_
      exact w_wid (by omega) (by omega) (q_La_law_b2375 hnx hnK x5 hL h5 s459 hs hb he0)
    · refine w_aload_n 5 dL_law_2363 rfl rfl ?_
      refine x_iconst dL_law_2364 ?_
      refine grd_e hs (fun hg461 hs => ?_)
      refine x_lald ⟨by decide, by decide⟩ (Nat.le_of_ble_eq_true rfl) dL_law_2365 rfl (lt_of hnx (Nat.le_of_ble_eq_true rfl)) ?_
      refine w_iload 0 dL_law_2366 rfl ?_
      refine grd_e hs (fun hg462 hs => ?_)
      refine x_i2l dL_law_2368 hg462 ?_
      refine grd_e hs (fun hg463 hs => ?_)
      refine x_lcmp dL_law_2369 hg463.1 hg463.2 ?_
      refine x_ifeq hs dL_law_2370 rfl (fun hs => ?_) (fun hs => ?_)
      · refine w_lv (lv' := [(0, .ref 1200), (1, .ref 0), (2, .ref 80), (3, .ref 100), (4, .ref 101), (5, vi x5)]) [2, 3, 4, 5, 6, 7] rfl ?_
        exact w_wid (by omega) (by omega) (q_La_law_b2375 hnx hnK x5 hL h5 s459 hs hb he0)
      · cases hs
  · cases hs
set_option maxRecDepth 100000 in
set_option maxHeartbeats 4000000 in
theorem q_La_law_b2378 {C : Cx} {nx : Nat} (hnx : 102 ≤ nx) (hnK : KN ≤ nx) {Qr : Option Value → Hp → Prop} {Qx : String → Hp → Prop}  (x5 : Int) (hL : xL C ≤ 2048) (h5 : 0 ≤ x5 ∧ x5 < (xL C : Int)) (s : Sg) {o : ((Int × Sg) ⊕ (Sg))} (hs : La_law_b2378 (xL C) x5 s = some o) (hb : ∀ σ : Int × Sg, o = .inl σ → ww C M_L_law 17 601024 7293034 nx (Qr) (Qx) nx (3 * σ.1.toNat + 1000) (18 * σ.1.toNat + 100000) 28 [(0, .ref 1200), (1, .ref 0), (2, .ref 80), (3, .ref 100), (4, .ref 101), (5, vi σ.1)] [] (hp nx σ.2)) (he0 : ∀ ρ : Sg, o = .inr ρ → ww C M_L_law 17 601024 7293034 nx (Qr) (Qx) nx 8000 150000 2713 [] [] (hp nx ρ)) : ww C M_L_law 17 601024 7293034 nx (Qr) (Qx) nx (3 * x5.toNat + 1000) (18 * x5.toNat + 100000) 2378 [(0, .ref 1200), (1, .ref 0), (2, .ref 80), (3, .ref 100), (4, .ref 101), (5, vi x5)] [] (hp nx s) := by
  unfold La_law_b2378 at hs
  refine w_aload_n 1 dL_law_2378 rfl rfl ?_
  refine x_V_B M_X11_forcedWinner [] [] hs rfl dL_law_2379 (lkL_278 _ rfl) (lt_of hnx (Nat.le_of_ble_eq_true rfl)) rfl rfl (Nat.le_of_ble_eq_true rfl) (by omega) (by omega) (Nat.le_of_ble_eq_true rfl) (c_Hx_forcedWinner (Nat.le_trans (Nat.le_of_ble_eq_true rfl) hnx) hnK s) (fun y466 s467 hy466 hs => ?_)
  refine w_aload_n 2 dL_law_2382 rfl rfl ?_
  refine x_V_B M_X12_forcedWinner [] [vi y466] hs rfl dL_law_2383 (lkL_281 _ rfl) (lt_of hnx (Nat.le_of_ble_eq_true rfl)) rfl rfl (Nat.le_of_ble_eq_true rfl) (by omega) (by omega) (Nat.le_of_ble_eq_true rfl) (c_Mo_forcedWinner (Nat.le_trans (Nat.le_of_ble_eq_true rfl) hnx) s467) (fun y468 s469 hy468 hs => ?_)
  refine x_icmpeq hs dL_law_2386 rfl (fun hs => ?_) (fun hs => ?_)
  · exact w_wid (by omega) (by omega) (q_La_law_b2707 hnx hnK x5 hL h5 s469 hs hb he0)
  · cases hs
set_option maxRecDepth 100000 in
set_option maxHeartbeats 4000000 in
theorem q_La_law_b2391 {C : Cx} {nx : Nat} (hnx : 102 ≤ nx) (hnK : KN ≤ nx) {Qr : Option Value → Hp → Prop} {Qx : String → Hp → Prop}  (x5 : Int) (hL : xL C ≤ 2048) (h5 : 0 ≤ x5 ∧ x5 < (xL C : Int)) (s : Sg) {o : ((Int × Sg) ⊕ (Sg))} (hs : La_law_b2391 (xL C) x5 s = some o) (hb : ∀ σ : Int × Sg, o = .inl σ → ww C M_L_law 17 601024 7293034 nx (Qr) (Qx) nx (3 * σ.1.toNat + 1000) (18 * σ.1.toNat + 100000) 28 [(0, .ref 1200), (1, .ref 0), (2, .ref 80), (3, .ref 100), (4, .ref 101), (5, vi σ.1)] [] (hp nx σ.2)) (he0 : ∀ ρ : Sg, o = .inr ρ → ww C M_L_law 17 601024 7293034 nx (Qr) (Qx) nx 8000 150000 2713 [] [] (hp nx ρ)) : ww C M_L_law 17 601024 7293034 nx (Qr) (Qx) nx (3 * x5.toNat + 1000) (18 * x5.toNat + 100000) 2391 [(0, .ref 1200), (1, .ref 0), (2, .ref 80), (3, .ref 100), (4, .ref 101), (5, vi x5)] [] (hp nx s) := by
  unfold La_law_b2391 at hs
  refine w_aload_n 1 dL_law_2391 rfl rfl ?_
  refine x_V_B M_X11_forcedRow [] [] hs rfl dL_law_2392 (lkL_282 _ rfl) (lt_of hnx (Nat.le_of_ble_eq_true rfl)) rfl rfl (Nat.le_of_ble_eq_true rfl) (by omega) (by omega) (Nat.le_of_ble_eq_true rfl) (c_Hx_forcedRow (Nat.le_trans (Nat.le_of_ble_eq_true rfl) hnx) hnK s) (fun y472 s473 hy472 hs => ?_)
  refine w_aload_n 2 dL_law_2395 rfl rfl ?_
  refine x_V_B M_X12_forcedRow [] [vi y472] hs rfl dL_law_2396 (lkL_285 _ rfl) (lt_of hnx (Nat.le_of_ble_eq_true rfl)) rfl rfl (Nat.le_of_ble_eq_true rfl) (by omega) (by omega) (Nat.le_of_ble_eq_true rfl) (c_Mo_forcedRow (Nat.le_trans (Nat.le_of_ble_eq_true rfl) hnx) s473) (fun y474 s475 hy474 hs => ?_)
  refine x_icmpeq hs dL_law_2399 rfl (fun hs => ?_) (fun hs => ?_)
  · exact w_wid (by omega) (by omega) (q_La_law_b2707 hnx hnK x5 hL h5 s475 hs hb he0)
  · cases hs
set_option maxRecDepth 100000 in
set_option maxHeartbeats 4000000 in
theorem q_La_law_b2442 {C : Cx} {nx : Nat} (hnx : 102 ≤ nx) (hnK : KN ≤ nx) {Qr : Option Value → Hp → Prop} {Qx : String → Hp → Prop}  (x5 : Int) (hL : xL C ≤ 2048) (h5 : 0 ≤ x5 ∧ x5 < (xL C : Int)) (s : Sg) {o : ((Int × Sg) ⊕ (Sg))} (hs : La_law_b2442 (xL C) x5 s = some o) (hb : ∀ σ : Int × Sg, o = .inl σ → ww C M_L_law 17 601024 7293034 nx (Qr) (Qx) nx (3 * σ.1.toNat + 1000) (18 * σ.1.toNat + 100000) 28 [(0, .ref 1200), (1, .ref 0), (2, .ref 80), (3, .ref 100), (4, .ref 101), (5, vi σ.1)] [] (hp nx σ.2)) (he0 : ∀ ρ : Sg, o = .inr ρ → ww C M_L_law 17 601024 7293034 nx (Qr) (Qx) nx 8000 150000 2713 [] [] (hp nx ρ)) : ww C M_L_law 17 601024 7293034 nx (Qr) (Qx) nx (3 * x5.toNat + 1003) (18 * x5.toNat + 100018) 2442 [(0, .ref 1200), (1, .ref 0), (2, .ref 80), (3, .ref 100), (4, .ref 101), (5, vi x5)] [] (hp nx s) := by
  unfold La_law_b2442 at hs
  refine w_goto dL_law_2442 rfl ?_
  exact w_wid (by omega) (by omega) (q_La_law_b2707 hnx hnK x5 hL h5 s hs hb he0)
set_option maxRecDepth 100000 in
set_option maxHeartbeats 4000000 in
theorem q_La_law_b2404 {C : Cx} {nx : Nat} (hnx : 102 ≤ nx) (hnK : KN ≤ nx) {Qr : Option Value → Hp → Prop} {Qx : String → Hp → Prop}  (x5 : Int) (hL : xL C ≤ 2048) (h5 : 0 ≤ x5 ∧ x5 < (xL C : Int)) (s : Sg) {o : ((Int × Sg) ⊕ (Sg))} (hs : La_law_b2404 (xL C) x5 s = some o) (hb : ∀ σ : Int × Sg, o = .inl σ → ww C M_L_law 17 601024 7293034 nx (Qr) (Qx) nx (3 * σ.1.toNat + 1000) (18 * σ.1.toNat + 100000) 28 [(0, .ref 1200), (1, .ref 0), (2, .ref 80), (3, .ref 100), (4, .ref 101), (5, vi σ.1)] [] (hp nx σ.2)) (he0 : ∀ ρ : Sg, o = .inr ρ → ww C M_L_law 17 601024 7293034 nx (Qr) (Qx) nx 8000 150000 2713 [] [] (hp nx ρ)) : ww C M_L_law 17 601024 7293034 nx (Qr) (Qx) nx (3 * x5.toNat + 1000) (18 * x5.toNat + 100000) 2404 [(0, .ref 1200), (1, .ref 0), (2, .ref 80), (3, .ref 100), (4, .ref 101), (5, vi x5)] [] (hp nx s) := by
  unfold La_law_b2404 at hs
  refine w_aload_n 1 dL_law_2404 rfl rfl ?_
  refine x_V_D M_X11_fullness [] [] hs rfl dL_law_2405 (lkL_286 _ rfl) (lt_of hnx (Nat.le_of_ble_eq_true rfl)) rfl rfl (Nat.le_of_ble_eq_true rfl) (by omega) (by omega) (Nat.le_of_ble_eq_true rfl) (c_Hx_fullness (Nat.le_trans (Nat.le_of_ble_eq_true rfl) hnx) s) (fun y478 hy478 hs => ?_)
  refine w_dstore (lv' := [(6, .double y478), (0, .ref 1200), (1, .ref 0), (2, .ref 80), (3, .ref 100), (4, .ref 101), (5, vi x5)]) dL_law_2408 (Nat.le_of_ble_eq_true rfl) rfl ?_
  refine w_aload_n 3 dL_law_2410 rfl rfl ?_
  refine x_V_BD M_X12_fullness [] [] hs rfl dL_law_2411 (lkL_290 _ rfl) (lt_of hnx (Nat.le_of_ble_eq_true rfl)) rfl rfl (Nat.le_of_ble_eq_true rfl) (by omega) (by omega) (Nat.le_of_ble_eq_true rfl) (c_Mo_fullness (Nat.le_trans (Nat.le_of_ble_eq_true rfl) hnx) s) (fun y479 s480 hy479 hs => ?_)
  refine w_dstore (lv' := [(8, .double y479), (6, .double y478), (0, .ref 1200), (1, .ref 0), (2, .ref 80), (3, .ref 100), (4, .ref 101), (5, vi x5)]) dL_law_2414 (Nat.le_of_ble_eq_true rfl) rfl ?_
  refine w_dload 1 dL_law_2416 rfl ?_
  refine w_dload 0 dL_law_2418 rfl ?_
  refine x_dcmpl dL_law_2420 ?_
  refine x_ifeq hs dL_law_2421 rfl (fun hs => ?_) (fun hs => ?_)
  · refine w_lv (lv' := [(0, .ref 1200), (1, .ref 0), (2, .ref 80), (3, .ref 100), (4, .ref 101), (5, vi x5)]) [2, 3, 4, 5, 6, 7] rfl ?_
    exact w_wid (by omega) (by omega) (q_La_law_b2442 hnx hnK x5 hL h5 s480 hs hb he0)
  · refine w_dload 1 dL_law_2424 rfl ?_
    refine w_dload 1 dL_law_2426 rfl ?_
    refine x_dcmpl dL_law_2428 ?_
    refine x_ifeq hs dL_law_2429 rfl (fun hs => ?_) (fun hs => ?_)
    · cases hs
    · refine w_dload 0 dL_law_2432 rfl ?_
      refine w_dload 0 dL_law_2434 rfl ?_
      refine x_dcmpl dL_law_2436 ?_
      refine x_ifne hs dL_law_2437 rfl (fun hs => ?_) (fun hs => ?_)
      · refine w_lv (lv' := [(0, .ref 1200), (1, .ref 0), (2, .ref 80), (3, .ref 100), (4, .ref 101), (5, vi x5)]) [2, 3, 4, 5, 6, 7] rfl ?_
        exact w_wid (by omega) (by omega) (q_La_law_b2442 hnx hnK x5 hL h5 s480 hs hb he0)
      · cases hs
set_option maxRecDepth 100000 in
set_option maxHeartbeats 4000000 in
theorem q_La_law_b2498 {C : Cx} {nx : Nat} (hnx : 102 ≤ nx) (hnK : KN ≤ nx) {Qr : Option Value → Hp → Prop} {Qx : String → Hp → Prop}  (x5 : Int) (hL : xL C ≤ 2048) (h5 : 0 ≤ x5 ∧ x5 < (xL C : Int)) (s : Sg) {o : ((Int × Sg) ⊕ (Sg))} (hs : La_law_b2498 (xL C) x5 s = some o) (hb : ∀ σ : Int × Sg, o = .inl σ → ww C M_L_law 17 601024 7293034 nx (Qr) (Qx) nx (3 * σ.1.toNat + 1000) (18 * σ.1.toNat + 100000) 28 [(0, .ref 1200), (1, .ref 0), (2, .ref 80), (3, .ref 100), (4, .ref 101), (5, vi σ.1)] [] (hp nx σ.2)) (he0 : ∀ ρ : Sg, o = .inr ρ → ww C M_L_law 17 601024 7293034 nx (Qr) (Qx) nx 8000 150000 2713 [] [] (hp nx ρ)) : ww C M_L_law 17 601024 7293034 nx (Qr) (Qx) nx (3 * x5.toNat + 1003) (18 * x5.toNat + 100018) 2498 [(0, .ref 1200), (1, .ref 0), (2, .ref 80), (3, .ref 100), (4, .ref 101), (5, vi x5)] [] (hp nx s) := by
  unfold La_law_b2498 at hs
  refine w_goto dL_law_2498 rfl ?_
  exact w_wid (by omega) (by omega) (q_La_law_b2707 hnx hnK x5 hL h5 s hs hb he0)
set_option maxRecDepth 100000 in
set_option maxHeartbeats 4000000 in
theorem q_La_law_b2445 {C : Cx} {nx : Nat} (hnx : 102 ≤ nx) (hnK : KN ≤ nx) {Qr : Option Value → Hp → Prop} {Qx : String → Hp → Prop}  (x5 : Int) (hL : xL C ≤ 2048) (h5 : 0 ≤ x5 ∧ x5 < (xL C : Int)) (s : Sg) {o : ((Int × Sg) ⊕ (Sg))} (hs : La_law_b2445 (xL C) x5 s = some o) (hb : ∀ σ : Int × Sg, o = .inl σ → ww C M_L_law 17 601024 7293034 nx (Qr) (Qx) nx (3 * σ.1.toNat + 1000) (18 * σ.1.toNat + 100000) 28 [(0, .ref 1200), (1, .ref 0), (2, .ref 80), (3, .ref 100), (4, .ref 101), (5, vi σ.1)] [] (hp nx σ.2)) (he0 : ∀ ρ : Sg, o = .inr ρ → ww C M_L_law 17 601024 7293034 nx (Qr) (Qx) nx 8000 150000 2713 [] [] (hp nx ρ)) : ww C M_L_law 17 601024 7293034 nx (Qr) (Qx) nx (3 * x5.toNat + 1000) (18 * x5.toNat + 100000) 2445 [(0, .ref 1200), (1, .ref 0), (2, .ref 80), (3, .ref 100), (4, .ref 101), (5, vi x5)] [] (hp nx s) := by
  unfold La_law_b2445 at hs
  refine w_aload_n 1 dL_law_2445 rfl rfl ?_
  refine w_aload_n 0 dL_law_2446 rfl rfl ?_
  refine w_iload 5 dL_law_2447 rfl ?_
  refine x_iconst dL_law_2449 ?_
  refine x_iadd dL_law_2450 ?_
  refine grd_e hs (fun hg483 hs => ?_)
  refine x_iald hg483 (Nat.le_trans hL (Nat.le_of_ble_eq_true rfl)) dL_law_2451 (Or.inr (List.mem_of_getElem? (i := 8) rfl)) ?_
  refine w_aload_n 3 dL_law_2452 rfl rfl ?_
  refine x_SW_B M_L_writeRow [.ref 0, vi (gi s 1200 (x5 + 1).toNat), .ref 100] [] (k2 := (3 * x5.toNat + 1003)) (n2 := (18 * x5.toNat + 100018)) hs rfl dL_law_2453 (lkL_291 _ rfl) (Nat.le_of_ble_eq_true rfl) (by omega) (by omega) (by omega) (by omega) (Nat.le_of_ble_eq_true rfl) (c_La_writeRow hnx hnK (gi s 1200 (x5 + 1).toNat) s) (fun y484 s485 hy484 hs => ?_)
  refine w_istore (lv' := [(6, vi y484), (0, .ref 1200), (1, .ref 0), (2, .ref 80), (3, .ref 100), (4, .ref 101), (5, vi x5)]) dL_law_2456 (Nat.le_of_ble_eq_true rfl) rfl ?_
  refine w_aload_n 3 dL_law_2458 rfl rfl ?_
  refine w_aload_n 1 dL_law_2459 rfl rfl ?_
  refine w_iload 6 dL_law_2460 rfl ?_
  refine x_iconst dL_law_2462 ?_
  refine x_iadd dL_law_2463 ?_
  refine grd_e hs (fun hg486 hs => ?_)
  refine x_iald hg486 (Nat.le_trans hL (Nat.le_of_ble_eq_true rfl)) dL_law_2464 (Or.inr (List.mem_of_getElem? (i := 8) rfl)) ?_
  refine x_V_B M_X12_writeRow [vi (gi s485 1200 (x5 + 1).toNat)] [] hs rfl dL_law_2465 (lkL_293 _ rfl) (lt_of hnx (Nat.le_of_ble_eq_true rfl)) rfl rfl (Nat.le_of_ble_eq_true rfl) (by omega) (by omega) (Nat.le_of_ble_eq_true rfl) (c_Mo_writeRow (Nat.le_trans (Nat.le_of_ble_eq_true rfl) hnx) (gi s485 1200 (x5 + 1).toNat) s485) (fun y487 s488 hy487 hs => ?_)
  refine w_istore (lv' := [(7, vi y487), (6, vi y484), (0, .ref 1200), (1, .ref 0), (2, .ref 80), (3, .ref 100), (4, .ref 101), (5, vi x5)]) dL_law_2468 (Nat.le_of_ble_eq_true rfl) rfl ?_
  refine w_aload_n 4 dL_law_2470 rfl rfl ?_
  refine x_V_I M_X12_thrown [] [] hs rfl dL_law_2471 (lkL_150 _ rfl) (lt_of hnx (Nat.le_of_ble_eq_true rfl)) rfl rfl (Nat.le_of_ble_eq_true rfl) (by omega) (by omega) (Nat.le_of_ble_eq_true rfl) (c_Mo_thrown (Nat.le_trans (Nat.le_of_ble_eq_true rfl) hnx) s488) (fun y489 hy489 hs => ?_)
  refine w_iload 1 dL_law_2474 rfl ?_
  refine x_icmpeq hs dL_law_2476 rfl (fun hs => ?_) (fun hs => ?_)
  · refine w_iload 1 dL_law_2481 rfl ?_
    refine x_ifne hs dL_law_2483 rfl (fun hs => ?_) (fun hs => ?_)
    · refine w_lv (lv' := [(0, .ref 1200), (1, .ref 0), (2, .ref 80), (3, .ref 100), (4, .ref 101), (5, vi x5)]) [2, 3, 4, 5, 6, 7] rfl ?_
      exact w_wid (by omega) (by omega) (q_La_law_b2498 hnx hnK x5 hL h5 s488 hs hb he0)
    · refine w_aload_n 5 dL_law_2486 rfl rfl ?_
      refine x_iconst dL_law_2487 ?_
      refine grd_e hs (fun hg490 hs => ?_)
      refine x_lald ⟨by decide, by decide⟩ (Nat.le_of_ble_eq_true rfl) dL_law_2488 rfl (lt_of hnx (Nat.le_of_ble_eq_true rfl)) ?_
      refine w_iload 0 dL_law_2489 rfl ?_
      refine grd_e hs (fun hg491 hs => ?_)
      refine x_i2l dL_law_2491 hg491 ?_
      refine grd_e hs (fun hg492 hs => ?_)
      refine x_lcmp dL_law_2492 hg492.1 hg492.2 ?_
      refine x_ifeq hs dL_law_2493 rfl (fun hs => ?_) (fun hs => ?_)
      · refine w_lv (lv' := [(0, .ref 1200), (1, .ref 0), (2, .ref 80), (3, .ref 100), (4, .ref 101), (5, vi x5)]) [2, 3, 4, 5, 6, 7] rfl ?_
        exact w_wid (by omega) (by omega) (q_La_law_b2498 hnx hnK x5 hL h5 s488 hs hb he0)
      · cases hs
  · cases hs
set_option maxRecDepth 100000 in
set_option maxHeartbeats 4000000 in
theorem q_La_law_b2554 {C : Cx} {nx : Nat} (hnx : 102 ≤ nx) (hnK : KN ≤ nx) {Qr : Option Value → Hp → Prop} {Qx : String → Hp → Prop}  (x5 : Int) (hL : xL C ≤ 2048) (h5 : 0 ≤ x5 ∧ x5 < (xL C : Int)) (s : Sg) {o : ((Int × Sg) ⊕ (Sg))} (hs : La_law_b2554 (xL C) x5 s = some o) (hb : ∀ σ : Int × Sg, o = .inl σ → ww C M_L_law 17 601024 7293034 nx (Qr) (Qx) nx (3 * σ.1.toNat + 1000) (18 * σ.1.toNat + 100000) 28 [(0, .ref 1200), (1, .ref 0), (2, .ref 80), (3, .ref 100), (4, .ref 101), (5, vi σ.1)] [] (hp nx σ.2)) (he0 : ∀ ρ : Sg, o = .inr ρ → ww C M_L_law 17 601024 7293034 nx (Qr) (Qx) nx 8000 150000 2713 [] [] (hp nx ρ)) : ww C M_L_law 17 601024 7293034 nx (Qr) (Qx) nx (3 * x5.toNat + 1003) (18 * x5.toNat + 100018) 2554 [(0, .ref 1200), (1, .ref 0), (2, .ref 80), (3, .ref 100), (4, .ref 101), (5, vi x5)] [] (hp nx s) := by
  unfold La_law_b2554 at hs
  refine w_goto dL_law_2554 rfl ?_
  exact w_wid (by omega) (by omega) (q_La_law_b2707 hnx hnK x5 hL h5 s hs hb he0)
set_option maxRecDepth 100000 in
set_option maxHeartbeats 4000000 in
theorem q_La_law_b2501 {C : Cx} {nx : Nat} (hnx : 102 ≤ nx) (hnK : KN ≤ nx) {Qr : Option Value → Hp → Prop} {Qx : String → Hp → Prop}  (x5 : Int) (hL : xL C ≤ 2048) (h5 : 0 ≤ x5 ∧ x5 < (xL C : Int)) (s : Sg) {o : ((Int × Sg) ⊕ (Sg))} (hs : La_law_b2501 (xL C) x5 s = some o) (hb : ∀ σ : Int × Sg, o = .inl σ → ww C M_L_law 17 601024 7293034 nx (Qr) (Qx) nx (3 * σ.1.toNat + 1000) (18 * σ.1.toNat + 100000) 28 [(0, .ref 1200), (1, .ref 0), (2, .ref 80), (3, .ref 100), (4, .ref 101), (5, vi σ.1)] [] (hp nx σ.2)) (he0 : ∀ ρ : Sg, o = .inr ρ → ww C M_L_law 17 601024 7293034 nx (Qr) (Qx) nx 8000 150000 2713 [] [] (hp nx ρ)) : ww C M_L_law 17 601024 7293034 nx (Qr) (Qx) nx (3 * x5.toNat + 1000) (18 * x5.toNat + 100000) 2501 [(0, .ref 1200), (1, .ref 0), (2, .ref 80), (3, .ref 100), (4, .ref 101), (5, vi x5)] [] (hp nx s) := by
  unfold La_law_b2501 at hs
  refine w_aload_n 1 dL_law_2501 rfl rfl ?_
  refine w_aload_n 0 dL_law_2502 rfl rfl ?_
  refine w_iload 5 dL_law_2503 rfl ?_
  refine x_iconst dL_law_2505 ?_
  refine x_iadd dL_law_2506 ?_
  refine grd_e hs (fun hg495 hs => ?_)
  refine x_iald hg495 (Nat.le_trans hL (Nat.le_of_ble_eq_true rfl)) dL_law_2507 (Or.inr (List.mem_of_getElem? (i := 8) rfl)) ?_
  refine w_aload_n 3 dL_law_2508 rfl rfl ?_
  refine x_SW_B M_L_writeCell [.ref 0, vi (gi s 1200 (x5 + 1).toNat), .ref 100] [] (k2 := (3 * x5.toNat + 1003)) (n2 := (18 * x5.toNat + 100018)) hs rfl dL_law_2509 (lkL_294 _ rfl) (Nat.le_of_ble_eq_true rfl) (by omega) (by omega) (by omega) (by omega) (Nat.le_of_ble_eq_true rfl) (c_La_writeCell hnx hnK (gi s 1200 (x5 + 1).toNat) s) (fun y496 s497 hy496 hs => ?_)
  refine w_istore (lv' := [(6, vi y496), (0, .ref 1200), (1, .ref 0), (2, .ref 80), (3, .ref 100), (4, .ref 101), (5, vi x5)]) dL_law_2512 (Nat.le_of_ble_eq_true rfl) rfl ?_
  refine w_aload_n 3 dL_law_2514 rfl rfl ?_
  refine w_aload_n 1 dL_law_2515 rfl rfl ?_
  refine w_iload 6 dL_law_2516 rfl ?_
  refine x_iconst dL_law_2518 ?_
  refine x_iadd dL_law_2519 ?_
  refine grd_e hs (fun hg498 hs => ?_)
  refine x_iald hg498 (Nat.le_trans hL (Nat.le_of_ble_eq_true rfl)) dL_law_2520 (Or.inr (List.mem_of_getElem? (i := 8) rfl)) ?_
  refine x_V_B M_X12_writeCell [vi (gi s497 1200 (x5 + 1).toNat)] [] hs rfl dL_law_2521 (lkL_296 _ rfl) (lt_of hnx (Nat.le_of_ble_eq_true rfl)) rfl rfl (Nat.le_of_ble_eq_true rfl) (by omega) (by omega) (Nat.le_of_ble_eq_true rfl) (c_Mo_writeCell (Nat.le_trans (Nat.le_of_ble_eq_true rfl) hnx) (gi s497 1200 (x5 + 1).toNat) s497) (fun y499 s500 hy499 hs => ?_)
  refine w_istore (lv' := [(7, vi y499), (6, vi y496), (0, .ref 1200), (1, .ref 0), (2, .ref 80), (3, .ref 100), (4, .ref 101), (5, vi x5)]) dL_law_2524 (Nat.le_of_ble_eq_true rfl) rfl ?_
  refine w_aload_n 4 dL_law_2526 rfl rfl ?_
  refine x_V_I M_X12_thrown [] [] hs rfl dL_law_2527 (lkL_150 _ rfl) (lt_of hnx (Nat.le_of_ble_eq_true rfl)) rfl rfl (Nat.le_of_ble_eq_true rfl) (by omega) (by omega) (Nat.le_of_ble_eq_true rfl) (c_Mo_thrown (Nat.le_trans (Nat.le_of_ble_eq_true rfl) hnx) s500) (fun y501 hy501 hs => ?_)
  refine w_iload 1 dL_law_2530 rfl ?_
  refine x_icmpeq hs dL_law_2532 rfl (fun hs => ?_) (fun hs => ?_)
  · refine w_iload 1 dL_law_2537 rfl ?_
    refine x_ifne hs dL_law_2539 rfl (fun hs => ?_) (fun hs => ?_)
    · refine w_lv (lv' := [(0, .ref 1200), (1, .ref 0), (2, .ref 80), (3, .ref 100), (4, .ref 101), (5, vi x5)]) [2, 3, 4, 5, 6, 7] rfl ?_
      exact w_wid (by omega) (by omega) (q_La_law_b2554 hnx hnK x5 hL h5 s500 hs hb he0)
    · refine w_aload_n 5 dL_law_2542 rfl rfl ?_
      refine x_iconst dL_law_2543 ?_
      refine grd_e hs (fun hg502 hs => ?_)
      refine x_lald ⟨by decide, by decide⟩ (Nat.le_of_ble_eq_true rfl) dL_law_2544 rfl (lt_of hnx (Nat.le_of_ble_eq_true rfl)) ?_
      refine w_iload 0 dL_law_2545 rfl ?_
      refine grd_e hs (fun hg503 hs => ?_)
      refine x_i2l dL_law_2547 hg503 ?_
      refine grd_e hs (fun hg504 hs => ?_)
      refine x_lcmp dL_law_2548 hg504.1 hg504.2 ?_
      refine x_ifeq hs dL_law_2549 rfl (fun hs => ?_) (fun hs => ?_)
      · refine w_lv (lv' := [(0, .ref 1200), (1, .ref 0), (2, .ref 80), (3, .ref 100), (4, .ref 101), (5, vi x5)]) [2, 3, 4, 5, 6, 7] rfl ?_
        exact w_wid (by omega) (by omega) (q_La_law_b2554 hnx hnK x5 hL h5 s500 hs hb he0)
      · cases hs
  · cases hs
set_option maxRecDepth 100000 in
set_option maxHeartbeats 4000000 in
theorem q_La_law_b2557 {C : Cx} {nx : Nat} (hnx : 102 ≤ nx) (hnK : KN ≤ nx) {Qr : Option Value → Hp → Prop} {Qx : String → Hp → Prop}  (x5 : Int) (hL : xL C ≤ 2048) (h5 : 0 ≤ x5 ∧ x5 < (xL C : Int)) (s : Sg) {o : ((Int × Sg) ⊕ (Sg))} (hs : La_law_b2557 (xL C) x5 s = some o) (hb : ∀ σ : Int × Sg, o = .inl σ → ww C M_L_law 17 601024 7293034 nx (Qr) (Qx) nx (3 * σ.1.toNat + 1000) (18 * σ.1.toNat + 100000) 28 [(0, .ref 1200), (1, .ref 0), (2, .ref 80), (3, .ref 100), (4, .ref 101), (5, vi σ.1)] [] (hp nx σ.2)) (he0 : ∀ ρ : Sg, o = .inr ρ → ww C M_L_law 17 601024 7293034 nx (Qr) (Qx) nx 8000 150000 2713 [] [] (hp nx ρ)) : ww C M_L_law 17 601024 7293034 nx (Qr) (Qx) nx (3 * x5.toNat + 1000) (18 * x5.toNat + 100000) 2557 [(0, .ref 1200), (1, .ref 0), (2, .ref 80), (3, .ref 100), (4, .ref 101), (5, vi x5)] [] (hp nx s) := by
  unfold La_law_b2557 at hs
  refine w_aload_n 1 dL_law_2557 rfl rfl ?_
  refine w_aload_n 0 dL_law_2558 rfl rfl ?_
  refine w_iload 5 dL_law_2559 rfl ?_
  refine x_iconst dL_law_2561 ?_
  refine x_iadd dL_law_2562 ?_
  refine grd_e hs (fun hg507 hs => ?_)
  refine x_iald hg507 (Nat.le_trans hL (Nat.le_of_ble_eq_true rfl)) dL_law_2563 (Or.inr (List.mem_of_getElem? (i := 8) rfl)) ?_
  refine x_V_I M_X11_outputByte [vi (gi s 1200 (x5 + 1).toNat)] [] hs rfl dL_law_2564 (lkL_297 _ rfl) (lt_of hnx (Nat.le_of_ble_eq_true rfl)) rfl rfl (Nat.le_of_ble_eq_true rfl) (by omega) (by omega) (Nat.le_of_ble_eq_true rfl) (c_Hx_outputByte (Nat.le_trans (Nat.le_of_ble_eq_true rfl) hnx) (gi s 1200 (x5 + 1).toNat) s) (fun y508 hy508 hs => ?_)
  refine w_aload_n 2 dL_law_2567 rfl rfl ?_
  refine w_aload_n 0 dL_law_2568 rfl rfl ?_
  refine w_iload 5 dL_law_2569 rfl ?_
  refine x_iconst dL_law_2571 ?_
  refine x_iadd dL_law_2572 ?_
  refine grd_e hs (fun hg509 hs => ?_)
  refine x_iald hg509 (Nat.le_trans hL (Nat.le_of_ble_eq_true rfl)) dL_law_2573 (Or.inr (List.mem_of_getElem? (i := 8) rfl)) ?_
  refine x_V_B M_X12_outputByte [vi (gi s 1200 (x5 + 1).toNat)] [vi y508] hs rfl dL_law_2574 (lkL_300 _ rfl) (lt_of hnx (Nat.le_of_ble_eq_true rfl)) rfl rfl (Nat.le_of_ble_eq_true rfl) (by omega) (by omega) (Nat.le_of_ble_eq_true rfl) (c_Mo_outputByte (Nat.le_trans (Nat.le_of_ble_eq_true rfl) hnx) (gi s 1200 (x5 + 1).toNat) s) (fun y510 s511 hy510 hs => ?_)
  refine x_icmpeq hs dL_law_2577 rfl (fun hs => ?_) (fun hs => ?_)
  · exact w_wid (by omega) (by omega) (q_La_law_b2707 hnx hnK x5 hL h5 s511 hs hb he0)
  · cases hs
set_option maxRecDepth 100000 in
set_option maxHeartbeats 4000000 in
theorem q_La_law_b2582 {C : Cx} {nx : Nat} (hnx : 102 ≤ nx) (hnK : KN ≤ nx) {Qr : Option Value → Hp → Prop} {Qx : String → Hp → Prop}  (x5 : Int) (hL : xL C ≤ 2048) (h5 : 0 ≤ x5 ∧ x5 < (xL C : Int)) (s : Sg) {o : ((Int × Sg) ⊕ (Sg))} (hs : La_law_b2582 (xL C) x5 s = some o) (hb : ∀ σ : Int × Sg, o = .inl σ → ww C M_L_law 17 601024 7293034 nx (Qr) (Qx) nx (3 * σ.1.toNat + 1000) (18 * σ.1.toNat + 100000) 28 [(0, .ref 1200), (1, .ref 0), (2, .ref 80), (3, .ref 100), (4, .ref 101), (5, vi σ.1)] [] (hp nx σ.2)) (he0 : ∀ ρ : Sg, o = .inr ρ → ww C M_L_law 17 601024 7293034 nx (Qr) (Qx) nx 8000 150000 2713 [] [] (hp nx ρ)) : ww C M_L_law 17 601024 7293034 nx (Qr) (Qx) nx (3 * x5.toNat + 1000) (18 * x5.toNat + 100000) 2582 [(0, .ref 1200), (1, .ref 0), (2, .ref 80), (3, .ref 100), (4, .ref 101), (5, vi x5)] [] (hp nx s) := by
  unfold La_law_b2582 at hs
  refine w_aload_n 1 dL_law_2582 rfl rfl ?_
  refine x_V_B M_X11_undo [] [] hs rfl dL_law_2583 (lkL_301 _ rfl) (lt_of hnx (Nat.le_of_ble_eq_true rfl)) rfl rfl (Nat.le_of_ble_eq_true rfl) (by omega) (by omega) (Nat.le_of_ble_eq_true rfl) (c_Hx_undo (Nat.le_trans (Nat.le_of_ble_eq_true rfl) hnx) hnK s) (fun y514 s515 hy514 hs => ?_)
  refine w_aload_n 2 dL_law_2586 rfl rfl ?_
  refine x_V_B M_X12_undo [] [vi y514] hs rfl dL_law_2587 (lkL_304 _ rfl) (lt_of hnx (Nat.le_of_ble_eq_true rfl)) rfl rfl (Nat.le_of_ble_eq_true rfl) (by omega) (by omega) (Nat.le_of_ble_eq_true rfl) (c_Mo_undo (Nat.le_trans (Nat.le_of_ble_eq_true rfl) hnx) s515) (fun y516 s517 hy516 hs => ?_)
  refine x_icmpeq hs dL_law_2590 rfl (fun hs => ?_) (fun hs => ?_)
  · exact w_wid (by omega) (by omega) (q_La_law_b2707 hnx hnK x5 hL h5 s517 hs hb he0)
  · cases hs
set_option maxRecDepth 100000 in
set_option maxHeartbeats 4000000 in
theorem q_La_law_b2648 {C : Cx} {nx : Nat} (hnx : 102 ≤ nx) (hnK : KN ≤ nx) {Qr : Option Value → Hp → Prop} {Qx : String → Hp → Prop}  (x5 : Int) (hL : xL C ≤ 2048) (h5 : 0 ≤ x5 ∧ x5 < (xL C : Int)) (s : Sg) {o : ((Int × Sg) ⊕ (Sg))} (hs : La_law_b2648 (xL C) x5 s = some o) (hb : ∀ σ : Int × Sg, o = .inl σ → ww C M_L_law 17 601024 7293034 nx (Qr) (Qx) nx (3 * σ.1.toNat + 1000) (18 * σ.1.toNat + 100000) 28 [(0, .ref 1200), (1, .ref 0), (2, .ref 80), (3, .ref 100), (4, .ref 101), (5, vi σ.1)] [] (hp nx σ.2)) (he0 : ∀ ρ : Sg, o = .inr ρ → ww C M_L_law 17 601024 7293034 nx (Qr) (Qx) nx 8000 150000 2713 [] [] (hp nx ρ)) : ww C M_L_law 17 601024 7293034 nx (Qr) (Qx) nx (3 * x5.toNat + 1003) (18 * x5.toNat + 100018) 2648 [(0, .ref 1200), (1, .ref 0), (2, .ref 80), (3, .ref 100), (4, .ref 101), (5, vi x5)] [] (hp nx s) := by
  unfold La_law_b2648 at hs
  refine w_goto dL_law_2648 rfl ?_
  exact w_wid (by omega) (by omega) (q_La_law_b2707 hnx hnK x5 hL h5 s hs hb he0)
set_option maxRecDepth 100000 in
set_option maxHeartbeats 4000000 in
theorem q_La_law_b2595 {C : Cx} {nx : Nat} (hnx : 102 ≤ nx) (hnK : KN ≤ nx) {Qr : Option Value → Hp → Prop} {Qx : String → Hp → Prop}  (x5 : Int) (hL : xL C ≤ 2048) (h5 : 0 ≤ x5 ∧ x5 < (xL C : Int)) (s : Sg) {o : ((Int × Sg) ⊕ (Sg))} (hs : La_law_b2595 (xL C) x5 s = some o) (hb : ∀ σ : Int × Sg, o = .inl σ → ww C M_L_law 17 601024 7293034 nx (Qr) (Qx) nx (3 * σ.1.toNat + 1000) (18 * σ.1.toNat + 100000) 28 [(0, .ref 1200), (1, .ref 0), (2, .ref 80), (3, .ref 100), (4, .ref 101), (5, vi σ.1)] [] (hp nx σ.2)) (he0 : ∀ ρ : Sg, o = .inr ρ → ww C M_L_law 17 601024 7293034 nx (Qr) (Qx) nx 8000 150000 2713 [] [] (hp nx ρ)) : ww C M_L_law 17 601024 7293034 nx (Qr) (Qx) nx (3 * x5.toNat + 1000) (18 * x5.toNat + 100000) 2595 [(0, .ref 1200), (1, .ref 0), (2, .ref 80), (3, .ref 100), (4, .ref 101), (5, vi x5)] [] (hp nx s) := by
  unfold La_law_b2595 at hs
  refine w_aload_n 1 dL_law_2595 rfl rfl ?_
  refine w_aload_n 0 dL_law_2596 rfl rfl ?_
  refine w_iload 5 dL_law_2597 rfl ?_
  refine x_iconst dL_law_2599 ?_
  refine x_iadd dL_law_2600 ?_
  refine grd_e hs (fun hg520 hs => ?_)
  refine x_iald hg520 (Nat.le_trans hL (Nat.le_of_ble_eq_true rfl)) dL_law_2601 (Or.inr (List.mem_of_getElem? (i := 8) rfl)) ?_
  refine w_aload_n 3 dL_law_2602 rfl rfl ?_
  refine x_SW_B M_L_saveSnapshot [.ref 0, vi (gi s 1200 (x5 + 1).toNat), .ref 100] [] (k2 := (3 * x5.toNat + 1003)) (n2 := (18 * x5.toNat + 100018)) hs rfl dL_law_2603 (lkL_305 _ rfl) (Nat.le_of_ble_eq_true rfl) (by omega) (by omega) (by omega) (by omega) (Nat.le_of_ble_eq_true rfl) (c_La_saveSnapshot hnx hnK (gi s 1200 (x5 + 1).toNat) s) (fun y521 s522 hy521 hs => ?_)
  refine w_istore (lv' := [(6, vi y521), (0, .ref 1200), (1, .ref 0), (2, .ref 80), (3, .ref 100), (4, .ref 101), (5, vi x5)]) dL_law_2606 (Nat.le_of_ble_eq_true rfl) rfl ?_
  refine w_aload_n 3 dL_law_2608 rfl rfl ?_
  refine w_aload_n 1 dL_law_2609 rfl rfl ?_
  refine w_iload 6 dL_law_2610 rfl ?_
  refine x_iconst dL_law_2612 ?_
  refine x_iadd dL_law_2613 ?_
  refine grd_e hs (fun hg523 hs => ?_)
  refine x_iald hg523 (Nat.le_trans hL (Nat.le_of_ble_eq_true rfl)) dL_law_2614 (Or.inr (List.mem_of_getElem? (i := 8) rfl)) ?_
  refine x_V_B M_X12_saveSnapshot [vi (gi s522 1200 (x5 + 1).toNat)] [] hs rfl dL_law_2615 (lkL_307 _ rfl) (lt_of hnx (Nat.le_of_ble_eq_true rfl)) rfl rfl (Nat.le_of_ble_eq_true rfl) (by omega) (by omega) (Nat.le_of_ble_eq_true rfl) (c_Mo_saveSnapshot (Nat.le_trans (Nat.le_of_ble_eq_true rfl) hnx) (gi s522 1200 (x5 + 1).toNat) s522) (fun y524 s525 hy524 hs => ?_)
  refine w_istore (lv' := [(7, vi y524), (6, vi y521), (0, .ref 1200), (1, .ref 0), (2, .ref 80), (3, .ref 100), (4, .ref 101), (5, vi x5)]) dL_law_2618 (Nat.le_of_ble_eq_true rfl) rfl ?_
  refine w_aload_n 4 dL_law_2620 rfl rfl ?_
  refine x_V_I M_X12_thrown [] [] hs rfl dL_law_2621 (lkL_150 _ rfl) (lt_of hnx (Nat.le_of_ble_eq_true rfl)) rfl rfl (Nat.le_of_ble_eq_true rfl) (by omega) (by omega) (Nat.le_of_ble_eq_true rfl) (c_Mo_thrown (Nat.le_trans (Nat.le_of_ble_eq_true rfl) hnx) s525) (fun y526 hy526 hs => ?_)
  refine w_iload 1 dL_law_2624 rfl ?_
  refine x_icmpeq hs dL_law_2626 rfl (fun hs => ?_) (fun hs => ?_)
  · refine w_iload 1 dL_law_2631 rfl ?_
    refine x_ifne hs dL_law_2633 rfl (fun hs => ?_) (fun hs => ?_)
    · refine w_lv (lv' := [(0, .ref 1200), (1, .ref 0), (2, .ref 80), (3, .ref 100), (4, .ref 101), (5, vi x5)]) [2, 3, 4, 5, 6, 7] rfl ?_
      exact w_wid (by omega) (by omega) (q_La_law_b2648 hnx hnK x5 hL h5 s525 hs hb he0)
    · refine w_aload_n 5 dL_law_2636 rfl rfl ?_
      refine x_iconst dL_law_2637 ?_
      refine grd_e hs (fun hg527 hs => ?_)
      refine x_lald ⟨by decide, by decide⟩ (Nat.le_of_ble_eq_true rfl) dL_law_2638 rfl (lt_of hnx (Nat.le_of_ble_eq_true rfl)) ?_
      refine w_iload 0 dL_law_2639 rfl ?_
      refine grd_e hs (fun hg528 hs => ?_)
      refine x_i2l dL_law_2641 hg528 ?_
      refine grd_e hs (fun hg529 hs => ?_)
      refine x_lcmp dL_law_2642 hg529.1 hg529.2 ?_
      refine x_ifeq hs dL_law_2643 rfl (fun hs => ?_) (fun hs => ?_)
      · refine w_lv (lv' := [(0, .ref 1200), (1, .ref 0), (2, .ref 80), (3, .ref 100), (4, .ref 101), (5, vi x5)]) [2, 3, 4, 5, 6, 7] rfl ?_
        exact w_wid (by omega) (by omega) (q_La_law_b2648 hnx hnK x5 hL h5 s525 hs hb he0)
      · cases hs
  · cases hs
set_option maxRecDepth 100000 in
set_option maxHeartbeats 4000000 in
theorem q_La_law_b2704 {C : Cx} {nx : Nat} (hnx : 102 ≤ nx) (hnK : KN ≤ nx) {Qr : Option Value → Hp → Prop} {Qx : String → Hp → Prop}  (x5 : Int) (hL : xL C ≤ 2048) (h5 : 0 ≤ x5 ∧ x5 < (xL C : Int)) (s : Sg) {o : ((Int × Sg) ⊕ (Sg))} (hs : La_law_b2704 (xL C) x5 s = some o) (hb : ∀ σ : Int × Sg, o = .inl σ → ww C M_L_law 17 601024 7293034 nx (Qr) (Qx) nx (3 * σ.1.toNat + 1000) (18 * σ.1.toNat + 100000) 28 [(0, .ref 1200), (1, .ref 0), (2, .ref 80), (3, .ref 100), (4, .ref 101), (5, vi σ.1)] [] (hp nx σ.2)) (he0 : ∀ ρ : Sg, o = .inr ρ → ww C M_L_law 17 601024 7293034 nx (Qr) (Qx) nx 8000 150000 2713 [] [] (hp nx ρ)) : ww C M_L_law 17 601024 7293034 nx (Qr) (Qx) nx (3 * x5.toNat + 1003) (18 * x5.toNat + 100018) 2704 [(0, .ref 1200), (1, .ref 0), (2, .ref 80), (3, .ref 100), (4, .ref 101), (5, vi x5)] [] (hp nx s) := by
  unfold La_law_b2704 at hs
  refine w_goto dL_law_2704 rfl ?_
  exact w_wid (by omega) (by omega) (q_La_law_b2707 hnx hnK x5 hL h5 s hs hb he0)
set_option maxRecDepth 100000 in
set_option maxHeartbeats 4000000 in
theorem q_La_law_b2651 {C : Cx} {nx : Nat} (hnx : 102 ≤ nx) (hnK : KN ≤ nx) {Qr : Option Value → Hp → Prop} {Qx : String → Hp → Prop}  (x5 : Int) (hL : xL C ≤ 2048) (h5 : 0 ≤ x5 ∧ x5 < (xL C : Int)) (s : Sg) {o : ((Int × Sg) ⊕ (Sg))} (hs : La_law_b2651 (xL C) x5 s = some o) (hb : ∀ σ : Int × Sg, o = .inl σ → ww C M_L_law 17 601024 7293034 nx (Qr) (Qx) nx (3 * σ.1.toNat + 1000) (18 * σ.1.toNat + 100000) 28 [(0, .ref 1200), (1, .ref 0), (2, .ref 80), (3, .ref 100), (4, .ref 101), (5, vi σ.1)] [] (hp nx σ.2)) (he0 : ∀ ρ : Sg, o = .inr ρ → ww C M_L_law 17 601024 7293034 nx (Qr) (Qx) nx 8000 150000 2713 [] [] (hp nx ρ)) : ww C M_L_law 17 601024 7293034 nx (Qr) (Qx) nx (3 * x5.toNat + 1000) (18 * x5.toNat + 100000) 2651 [(0, .ref 1200), (1, .ref 0), (2, .ref 80), (3, .ref 100), (4, .ref 101), (5, vi x5)] [] (hp nx s) := by
  unfold La_law_b2651 at hs
  refine w_aload_n 1 dL_law_2651 rfl rfl ?_
  refine w_aload_n 0 dL_law_2652 rfl rfl ?_
  refine w_iload 5 dL_law_2653 rfl ?_
  refine x_iconst dL_law_2655 ?_
  refine x_iadd dL_law_2656 ?_
  refine grd_e hs (fun hg532 hs => ?_)
  refine x_iald hg532 (Nat.le_trans hL (Nat.le_of_ble_eq_true rfl)) dL_law_2657 (Or.inr (List.mem_of_getElem? (i := 8) rfl)) ?_
  refine w_aload_n 3 dL_law_2658 rfl rfl ?_
  refine x_SW_B M_L_restoreSnapshot [.ref 0, vi (gi s 1200 (x5 + 1).toNat), .ref 100] [] (k2 := (3 * x5.toNat + 1003)) (n2 := (18 * x5.toNat + 100018)) hs rfl dL_law_2659 (lkL_308 _ rfl) (Nat.le_of_ble_eq_true rfl) (by omega) (by omega) (by omega) (by omega) (Nat.le_of_ble_eq_true rfl) (c_La_restoreSnapshot hnx hnK (gi s 1200 (x5 + 1).toNat) s) (fun y533 s534 hy533 hs => ?_)
  refine w_istore (lv' := [(6, vi y533), (0, .ref 1200), (1, .ref 0), (2, .ref 80), (3, .ref 100), (4, .ref 101), (5, vi x5)]) dL_law_2662 (Nat.le_of_ble_eq_true rfl) rfl ?_
  refine w_aload_n 3 dL_law_2664 rfl rfl ?_
  refine w_aload_n 1 dL_law_2665 rfl rfl ?_
  refine w_iload 6 dL_law_2666 rfl ?_
  refine x_iconst dL_law_2668 ?_
  refine x_iadd dL_law_2669 ?_
  refine grd_e hs (fun hg535 hs => ?_)
  refine x_iald hg535 (Nat.le_trans hL (Nat.le_of_ble_eq_true rfl)) dL_law_2670 (Or.inr (List.mem_of_getElem? (i := 8) rfl)) ?_
  refine x_V_B M_X12_restoreSnapshot [vi (gi s534 1200 (x5 + 1).toNat)] [] hs rfl dL_law_2671 (lkL_310 _ rfl) (lt_of hnx (Nat.le_of_ble_eq_true rfl)) rfl rfl (Nat.le_of_ble_eq_true rfl) (by omega) (by omega) (Nat.le_of_ble_eq_true rfl) (c_Mo_restoreSnapshot (Nat.le_trans (Nat.le_of_ble_eq_true rfl) hnx) (gi s534 1200 (x5 + 1).toNat) s534) (fun y536 s537 hy536 hs => ?_)
  refine w_istore (lv' := [(7, vi y536), (6, vi y533), (0, .ref 1200), (1, .ref 0), (2, .ref 80), (3, .ref 100), (4, .ref 101), (5, vi x5)]) dL_law_2674 (Nat.le_of_ble_eq_true rfl) rfl ?_
  refine w_aload_n 4 dL_law_2676 rfl rfl ?_
  refine x_V_I M_X12_thrown [] [] hs rfl dL_law_2677 (lkL_150 _ rfl) (lt_of hnx (Nat.le_of_ble_eq_true rfl)) rfl rfl (Nat.le_of_ble_eq_true rfl) (by omega) (by omega) (Nat.le_of_ble_eq_true rfl) (c_Mo_thrown (Nat.le_trans (Nat.le_of_ble_eq_true rfl) hnx) s537) (fun y538 hy538 hs => ?_)
  refine w_iload 1 dL_law_2680 rfl ?_
  refine x_icmpeq hs dL_law_2682 rfl (fun hs => ?_) (fun hs => ?_)
  · refine w_iload 1 dL_law_2687 rfl ?_
    refine x_ifne hs dL_law_2689 rfl (fun hs => ?_) (fun hs => ?_)
    · refine w_lv (lv' := [(0, .ref 1200), (1, .ref 0), (2, .ref 80), (3, .ref 100), (4, .ref 101), (5, vi x5)]) [2, 3, 4, 5, 6, 7] rfl ?_
      exact w_wid (by omega) (by omega) (q_La_law_b2704 hnx hnK x5 hL h5 s537 hs hb he0)
    · refine w_aload_n 5 dL_law_2692 rfl rfl ?_
      refine x_iconst dL_law_2693 ?_
      refine grd_e hs (fun hg539 hs => ?_)
      refine x_lald ⟨by decide, by decide⟩ (Nat.le_of_ble_eq_true rfl) dL_law_2694 rfl (lt_of hnx (Nat.le_of_ble_eq_true rfl)) ?_
      refine w_iload 0 dL_law_2695 rfl ?_
      refine grd_e hs (fun hg540 hs => ?_)
      refine x_i2l dL_law_2697 hg540 ?_
      refine grd_e hs (fun hg541 hs => ?_)
      refine x_lcmp dL_law_2698 hg541.1 hg541.2 ?_
      refine x_ifeq hs dL_law_2699 rfl (fun hs => ?_) (fun hs => ?_)
      · refine w_lv (lv' := [(0, .ref 1200), (1, .ref 0), (2, .ref 80), (3, .ref 100), (4, .ref 101), (5, vi x5)]) [2, 3, 4, 5, 6, 7] rfl ?_
        exact w_wid (by omega) (by omega) (q_La_law_b2704 hnx hnK x5 hL h5 s537 hs hb he0)
      · cases hs
  · cases hs
set_option maxRecDepth 100000 in
set_option maxHeartbeats 4000000 in
theorem q_La_law_t28 {C : Cx} {nx : Nat} (hnx : 102 ≤ nx) (hnK : KN ≤ nx) {Qr : Option Value → Hp → Prop} {Qx : String → Hp → Prop}  (x5 : Int) (hL : xL C ≤ 2048) (s : Sg) {o : ((Int × Sg) ⊕ (Sg))} (hs : La_law_t28 (xL C) x5 s = some o) (hb : ∀ σ : Int × Sg, o = .inl σ → ww C M_L_law 17 601024 7293034 nx (Qr) (Qx) nx (3 * σ.1.toNat + 1000) (18 * σ.1.toNat + 100000) 28 [(0, .ref 1200), (1, .ref 0), (2, .ref 80), (3, .ref 100), (4, .ref 101), (5, vi σ.1)] [] (hp nx σ.2)) (he0 : ∀ ρ : Sg, o = .inr ρ → ww C M_L_law 17 601024 7293034 nx (Qr) (Qx) nx 8000 150000 2713 [] [] (hp nx ρ)) : ww C M_L_law 17 601024 7293034 nx (Qr) (Qx) nx (3 * x5.toNat + 1000) (18 * x5.toNat + 100000) 28 [(0, .ref 1200), (1, .ref 0), (2, .ref 80), (3, .ref 100), (4, .ref 101), (5, vi x5)] [] (hp nx s) := by
  unfold La_law_t28 at hs
  refine grd_e hs (fun h6 hs => ?_)
  refine w_iload 5 dL_law_28 rfl ?_
  refine w_aload_n 0 dL_law_30 rfl rfl ?_
  refine x_alen dL_law_31 (Or.inr (List.mem_of_getElem? (i := 8) rfl)) ?_
  refine x_iconst dL_law_32 ?_
  refine x_isub dL_law_33 ?_
  refine x_icmpgt hs dL_law_34 rfl (fun hs => ?_) (fun hs => ?_)
  · refine w_lv (lv' := []) [] rfl ?_
    cases hs
    exact w_wid (by omega) (by omega) (he0 _ rfl)
  · refine w_aload_n 0 dL_law_37 rfl rfl ?_
    refine w_iload 5 dL_law_38 rfl ?_
    refine grd_e hs (fun hg1 hs => ?_)
    have h5 := hg1
    refine x_iald hg1 (Nat.le_trans hL (Nat.le_of_ble_eq_true rfl)) dL_law_40 (Or.inr (List.mem_of_getElem? (i := 8) rfl)) ?_
    refine x_bipush dL_law_41 (by decide) ?_
    refine x_iand dL_law_43 ?_
    refine ifEq_c hs (fun hR15 hz14 hs => ?_) (fun hR15 hz14 hs => ?_)
    · refine x_tableIn 0 hz14 (by unfold R; omega) dL_law_44 (by decide) (by decide) rfl rfl ?_
      exact w_wid (by omega) (by omega) (q_La_law_b264 hnx hnK x5 hL h5 s hs hb he0)
    refine ifEq_c hs (fun hR21 hz20 hs => ?_) (fun hR21 hz20 hs => ?_)
    · refine x_tableIn 1 hz20 (by unfold R; omega) dL_law_44 (by decide) (by decide) rfl rfl ?_
      exact w_wid (by omega) (by omega) (q_La_law_b321 hnx hnK x5 hL h5 s hs hb he0)
    refine ifEq_c hs (fun hR26 hz25 hs => ?_) (fun hR26 hz25 hs => ?_)
    · refine x_tableIn 2 hz25 (by unfold R; omega) dL_law_44 (by decide) (by decide) rfl rfl ?_
      exact w_wid (by omega) (by omega) (q_La_law_b334 hnx hnK x5 hL h5 s hs hb he0)
    refine ifEq_c hs (fun hR31 hz30 hs => ?_) (fun hR31 hz30 hs => ?_)
    · refine x_tableIn 3 hz30 (by unfold R; omega) dL_law_44 (by decide) (by decide) rfl rfl ?_
      exact w_wid (by omega) (by omega) (q_La_law_b347 hnx hnK x5 hL h5 s hs hb he0)
    refine ifEq_c hs (fun hR43 hz42 hs => ?_) (fun hR43 hz42 hs => ?_)
    · refine x_tableIn 4 hz42 (by unfold R; omega) dL_law_44 (by decide) (by decide) rfl rfl ?_
      exact w_wid (by omega) (by omega) (q_La_law_b360 hnx hnK x5 hL h5 s hs hb he0)
    refine ifEq_c hs (fun hR55 hz54 hs => ?_) (fun hR55 hz54 hs => ?_)
    · refine x_tableIn 5 hz54 (by unfold R; omega) dL_law_44 (by decide) (by decide) rfl rfl ?_
      exact w_wid (by omega) (by omega) (q_La_law_b416 hnx hnK x5 hL h5 s hs hb he0)
    refine ifEq_c hs (fun hR69 hz68 hs => ?_) (fun hR69 hz68 hs => ?_)
    · refine x_tableIn 6 hz68 (by unfold R; omega) dL_law_44 (by decide) (by decide) rfl rfl ?_
      exact w_wid (by omega) (by omega) (q_La_law_b472 hnx hnK x5 hL h5 s hs hb he0)
    refine ifEq_c hs (fun hR83 hz82 hs => ?_) (fun hR83 hz82 hs => ?_)
    · refine x_tableIn 7 hz82 (by unfold R; omega) dL_law_44 (by decide) (by decide) rfl rfl ?_
      exact w_wid (by omega) (by omega) (q_La_law_b540 hnx hnK x5 hL h5 s hs hb he0)
    refine ifEq_c hs (fun hR95 hz94 hs => ?_) (fun hR95 hz94 hs => ?_)
    · refine x_tableIn 8 hz94 (by unfold R; omega) dL_law_44 (by decide) (by decide) rfl rfl ?_
      exact w_wid (by omega) (by omega) (q_La_law_b608 hnx hnK x5 hL h5 s hs hb he0)
    refine ifEq_c hs (fun hR107 hz106 hs => ?_) (fun hR107 hz106 hs => ?_)
    · refine x_tableIn 9 hz106 (by unfold R; omega) dL_law_44 (by decide) (by decide) rfl rfl ?_
      exact w_wid (by omega) (by omega) (q_La_law_b664 hnx hnK x5 hL h5 s hs hb he0)
    refine ifEq_c hs (fun hR120 hz119 hs => ?_) (fun hR120 hz119 hs => ?_)
    · refine x_tableIn 10 hz119 (by unfold R; omega) dL_law_44 (by decide) (by decide) rfl rfl ?_
      exact w_wid (by omega) (by omega) (q_La_law_b720 hnx hnK x5 hL h5 s hs hb he0)
    refine ifEq_c hs (fun hR134 hz133 hs => ?_) (fun hR134 hz133 hs => ?_)
    · refine x_tableIn 11 hz133 (by unfold R; omega) dL_law_44 (by decide) (by decide) rfl rfl ?_
      exact w_wid (by omega) (by omega) (q_La_law_b795 hnx hnK x5 hL h5 s hs hb he0)
    refine ifEq_c hs (fun hR150 hz149 hs => ?_) (fun hR150 hz149 hs => ?_)
    · refine x_tableIn 12 hz149 (by unfold R; omega) dL_law_44 (by decide) (by decide) rfl rfl ?_
      exact w_wid (by omega) (by omega) (q_La_law_b879 hnx hnK x5 hL h5 s hs hb he0)
    refine ifEq_c hs (fun hR164 hz163 hs => ?_) (fun hR164 hz163 hs => ?_)
    · refine x_tableIn 13 hz163 (by unfold R; omega) dL_law_44 (by decide) (by decide) rfl rfl ?_
      exact w_wid (by omega) (by omega) (q_La_law_b959 hnx hnK x5 hL h5 s hs hb he0)
    refine ifEq_c hs (fun hR176 hz175 hs => ?_) (fun hR176 hz175 hs => ?_)
    · refine x_tableIn 14 hz175 (by unfold R; omega) dL_law_44 (by decide) (by decide) rfl rfl ?_
      exact w_wid (by omega) (by omega) (q_La_law_b1027 hnx hnK x5 hL h5 s hs hb he0)
    refine ifEq_c hs (fun hR187 hz186 hs => ?_) (fun hR187 hz186 hs => ?_)
    · refine x_tableIn 15 hz186 (by unfold R; omega) dL_law_44 (by decide) (by decide) rfl rfl ?_
      exact w_wid (by omega) (by omega) (q_La_law_b1083 hnx hnK x5 hL h5 s hs hb he0)
    refine ifEq_c hs (fun hR199 hz198 hs => ?_) (fun hR199 hz198 hs => ?_)
    · refine x_tableIn 16 hz198 (by unfold R; omega) dL_law_44 (by decide) (by decide) rfl rfl ?_
      exact w_wid (by omega) (by omega) (q_La_law_b1146 hnx hnK x5 hL h5 s hs hb he0)
    refine ifEq_c hs (fun hR211 hz210 hs => ?_) (fun hR211 hz210 hs => ?_)
    · refine x_tableIn 17 hz210 (by unfold R; omega) dL_law_44 (by decide) (by decide) rfl rfl ?_
      exact w_wid (by omega) (by omega) (q_La_law_b1202 hnx hnK x5 hL h5 s hs hb he0)
    refine ifEq_c hs (fun hR225 hz224 hs => ?_) (fun hR225 hz224 hs => ?_)
    · refine x_tableIn 18 hz224 (by unfold R; omega) dL_law_44 (by decide) (by decide) rfl rfl ?_
      exact w_wid (by omega) (by omega) (q_La_law_b1258 hnx hnK x5 hL h5 s hs hb he0)
    refine ifEq_c hs (fun hR231 hz230 hs => ?_) (fun hR231 hz230 hs => ?_)
    · refine x_tableIn 19 hz230 (by unfold R; omega) dL_law_44 (by decide) (by decide) rfl rfl ?_
      exact w_wid (by omega) (by omega) (q_La_law_b1326 hnx hnK x5 hL h5 s hs hb he0)
    refine ifEq_c hs (fun hR243 hz242 hs => ?_) (fun hR243 hz242 hs => ?_)
    · refine x_tableIn 20 hz242 (by unfold R; omega) dL_law_44 (by decide) (by decide) rfl rfl ?_
      exact w_wid (by omega) (by omega) (q_La_law_b1339 hnx hnK x5 hL h5 s hs hb he0)
    refine ifEq_c hs (fun hR257 hz256 hs => ?_) (fun hR257 hz256 hs => ?_)
    · refine x_tableIn 21 hz256 (by unfold R; omega) dL_law_44 (by decide) (by decide) rfl rfl ?_
      exact w_wid (by omega) (by omega) (q_La_law_b1395 hnx hnK x5 hL h5 s hs hb he0)
    refine ifEq_c hs (fun hR269 hz268 hs => ?_) (fun hR269 hz268 hs => ?_)
    · refine x_tableIn 22 hz268 (by unfold R; omega) dL_law_44 (by decide) (by decide) rfl rfl ?_
      exact w_wid (by omega) (by omega) (q_La_law_b1463 hnx hnK x5 hL h5 s hs hb he0)
    refine ifEq_c hs (fun hR275 hz274 hs => ?_) (fun hR275 hz274 hs => ?_)
    · refine x_tableIn 23 hz274 (by unfold R; omega) dL_law_44 (by decide) (by decide) rfl rfl ?_
      exact w_wid (by omega) (by omega) (q_La_law_b1519 hnx hnK x5 hL h5 s hs hb he0)
    refine ifEq_c hs (fun hR291 hz290 hs => ?_) (fun hR291 hz290 hs => ?_)
    · refine x_tableIn 24 hz290 (by unfold R; omega) dL_law_44 (by decide) (by decide) rfl rfl ?_
      exact w_wid (by omega) (by omega) (q_La_law_b1532 hnx hnK x5 hL h5 s hs hb he0)
    refine ifEq_c hs (fun hR305 hz304 hs => ?_) (fun hR305 hz304 hs => ?_)
    · refine x_tableIn 25 hz304 (by unfold R; omega) dL_law_44 (by decide) (by decide) rfl rfl ?_
      exact w_wid (by omega) (by omega) (q_La_law_b1612 hnx hnK x5 hL h5 s hs hb he0)
    refine ifEq_c hs (fun hR320 hz319 hs => ?_) (fun hR320 hz319 hs => ?_)
    · refine x_tableIn 26 hz319 (by unfold R; omega) dL_law_44 (by decide) (by decide) rfl rfl ?_
      exact w_wid (by omega) (by omega) (q_La_law_b1680 hnx hnK x5 hL h5 s hs hb he0)
    refine ifEq_c hs (fun hR332 hz331 hs => ?_) (fun hR332 hz331 hs => ?_)
    · refine x_tableIn 27 hz331 (by unfold R; omega) dL_law_44 (by decide) (by decide) rfl rfl ?_
      exact w_wid (by omega) (by omega) (q_La_law_b1770 hnx hnK x5 hL h5 s hs hb he0)
    refine ifEq_c hs (fun hR338 hz337 hs => ?_) (fun hR338 hz337 hs => ?_)
    · refine x_tableIn 28 hz337 (by unfold R; omega) dL_law_44 (by decide) (by decide) rfl rfl ?_
      exact w_wid (by omega) (by omega) (q_La_law_b1847 hnx hnK x5 hL h5 s hs hb he0)
    refine ifEq_c hs (fun hR344 hz343 hs => ?_) (fun hR344 hz343 hs => ?_)
    · refine x_tableIn 29 hz343 (by unfold R; omega) dL_law_44 (by decide) (by decide) rfl rfl ?_
      exact w_wid (by omega) (by omega) (q_La_law_b1860 hnx hnK x5 hL h5 s hs hb he0)
    refine ifEq_c hs (fun hR350 hz349 hs => ?_) (fun hR350 hz349 hs => ?_)
    · refine x_tableIn 30 hz349 (by unfold R; omega) dL_law_44 (by decide) (by decide) rfl rfl ?_
      exact w_wid (by omega) (by omega) (q_La_law_b1873 hnx hnK x5 hL h5 s hs hb he0)
    refine ifEq_c hs (fun hR362 hz361 hs => ?_) (fun hR362 hz361 hs => ?_)
    · refine x_tableIn 31 hz361 (by unfold R; omega) dL_law_44 (by decide) (by decide) rfl rfl ?_
      exact w_wid (by omega) (by omega) (q_La_law_b1886 hnx hnK x5 hL h5 s hs hb he0)
    refine ifEq_c hs (fun hR378 hz377 hs => ?_) (fun hR378 hz377 hs => ?_)
    · refine x_tableIn 32 hz377 (by unfold R; omega) dL_law_44 (by decide) (by decide) rfl rfl ?_
      exact w_wid (by omega) (by omega) (q_La_law_b1942 hnx hnK x5 hL h5 s hs hb he0)
    refine ifEq_c hs (fun hR390 hz389 hs => ?_) (fun hR390 hz389 hs => ?_)
    · refine x_tableIn 33 hz389 (by unfold R; omega) dL_law_44 (by decide) (by decide) rfl rfl ?_
      exact w_wid (by omega) (by omega) (q_La_law_b2022 hnx hnK x5 hL h5 s hs hb he0)
    refine ifEq_c hs (fun hR397 hz396 hs => ?_) (fun hR397 hz396 hs => ?_)
    · refine x_tableIn 34 hz396 (by unfold R; omega) dL_law_44 (by decide) (by decide) rfl rfl ?_
      exact w_wid (by omega) (by omega) (q_La_law_b2078 hnx hnK x5 hL h5 s hs hb he0)
    refine ifEq_c hs (fun hR409 hz408 hs => ?_) (fun hR409 hz408 hs => ?_)
    · refine x_tableIn 35 hz408 (by unfold R; omega) dL_law_44 (by decide) (by decide) rfl rfl ?_
      exact w_wid (by omega) (by omega) (q_La_law_b2103 hnx hnK x5 hL h5 s hs hb he0)
    refine ifEq_c hs (fun hR415 hz414 hs => ?_) (fun hR415 hz414 hs => ?_)
    · refine x_tableIn 36 hz414 (by unfold R; omega) dL_law_44 (by decide) (by decide) rfl rfl ?_
      exact w_wid (by omega) (by omega) (q_La_law_b2159 hnx hnK x5 hL h5 s hs hb he0)
    refine ifEq_c hs (fun hR421 hz420 hs => ?_) (fun hR421 hz420 hs => ?_)
    · refine x_tableIn 37 hz420 (by unfold R; omega) dL_law_44 (by decide) (by decide) rfl rfl ?_
      exact w_wid (by omega) (by omega) (q_La_law_b2172 hnx hnK x5 hL h5 s hs hb he0)
    refine ifEq_c hs (fun hR435 hz434 hs => ?_) (fun hR435 hz434 hs => ?_)
    · refine x_tableIn 38 hz434 (by unfold R; omega) dL_law_44 (by decide) (by decide) rfl rfl ?_
      exact w_wid (by omega) (by omega) (q_La_law_b2185 hnx hnK x5 hL h5 s hs hb he0)
    refine ifEq_c hs (fun hR447 hz446 hs => ?_) (fun hR447 hz446 hs => ?_)
    · refine x_tableIn 39 hz446 (by unfold R; omega) dL_law_44 (by decide) (by decide) rfl rfl ?_
      exact w_wid (by omega) (by omega) (q_La_law_b2253 hnx hnK x5 hL h5 s hs hb he0)
    refine ifEq_c hs (fun hR453 hz452 hs => ?_) (fun hR453 hz452 hs => ?_)
    · refine x_tableIn 40 hz452 (by unfold R; omega) dL_law_44 (by decide) (by decide) rfl rfl ?_
      exact w_wid (by omega) (by omega) (q_La_law_b2309 hnx hnK x5 hL h5 s hs hb he0)
    refine ifEq_c hs (fun hR465 hz464 hs => ?_) (fun hR465 hz464 hs => ?_)
    · refine x_tableIn 41 hz464 (by unfold R; omega) dL_law_44 (by decide) (by decide) rfl rfl ?_
      exact w_wid (by omega) (by omega) (q_La_law_b2322 hnx hnK x5 hL h5 s hs hb he0)
    refine ifEq_c hs (fun hR471 hz470 hs => ?_) (fun hR471 hz470 hs => ?_)
    · refine x_tableIn 42 hz470 (by unfold R; omega) dL_law_44 (by decide) (by decide) rfl rfl ?_
      exact w_wid (by omega) (by omega) (q_La_law_b2378 hnx hnK x5 hL h5 s hs hb he0)
    refine ifEq_c hs (fun hR477 hz476 hs => ?_) (fun hR477 hz476 hs => ?_)
    · refine x_tableIn 43 hz476 (by unfold R; omega) dL_law_44 (by decide) (by decide) rfl rfl ?_
      exact w_wid (by omega) (by omega) (q_La_law_b2391 hnx hnK x5 hL h5 s hs hb he0)
    refine ifEq_c hs (fun hR482 hz481 hs => ?_) (fun hR482 hz481 hs => ?_)
    · refine x_tableIn 44 hz481 (by unfold R; omega) dL_law_44 (by decide) (by decide) rfl rfl ?_
      exact w_wid (by omega) (by omega) (q_La_law_b2404 hnx hnK x5 hL h5 s hs hb he0)
    refine ifEq_c hs (fun hR494 hz493 hs => ?_) (fun hR494 hz493 hs => ?_)
    · refine x_tableIn 45 hz493 (by unfold R; omega) dL_law_44 (by decide) (by decide) rfl rfl ?_
      exact w_wid (by omega) (by omega) (q_La_law_b2445 hnx hnK x5 hL h5 s hs hb he0)
    refine ifEq_c hs (fun hR506 hz505 hs => ?_) (fun hR506 hz505 hs => ?_)
    · refine x_tableIn 46 hz505 (by unfold R; omega) dL_law_44 (by decide) (by decide) rfl rfl ?_
      exact w_wid (by omega) (by omega) (q_La_law_b2501 hnx hnK x5 hL h5 s hs hb he0)
    refine ifEq_c hs (fun hR513 hz512 hs => ?_) (fun hR513 hz512 hs => ?_)
    · refine x_tableIn 47 hz512 (by unfold R; omega) dL_law_44 (by decide) (by decide) rfl rfl ?_
      exact w_wid (by omega) (by omega) (q_La_law_b2557 hnx hnK x5 hL h5 s hs hb he0)
    refine ifEq_c hs (fun hR519 hz518 hs => ?_) (fun hR519 hz518 hs => ?_)
    · refine x_tableIn 48 hz518 (by unfold R; omega) dL_law_44 (by decide) (by decide) rfl rfl ?_
      exact w_wid (by omega) (by omega) (q_La_law_b2582 hnx hnK x5 hL h5 s hs hb he0)
    refine ifEq_c hs (fun hR531 hz530 hs => ?_) (fun hR531 hz530 hs => ?_)
    · refine x_tableIn 49 hz530 (by unfold R; omega) dL_law_44 (by decide) (by decide) rfl rfl ?_
      exact w_wid (by omega) (by omega) (q_La_law_b2595 hnx hnK x5 hL h5 s hs hb he0)
    refine ifEq_c hs (fun hR543 hz542 hs => ?_) (fun hR543 hz542 hs => ?_)
    · refine x_tableIn 50 hz542 (by unfold R; omega) dL_law_44 (by decide) (by decide) rfl rfl ?_
      exact w_wid (by omega) (by omega) (q_La_law_b2651 hnx hnK x5 hL h5 s hs hb he0)
    refine x_tableOut hR543 dL_law_44 (by omega) rfl ?_
    exact w_wid (by omega) (by omega) (q_La_law_b2707 hnx hnK x5 hL h5 s hs hb he0)
set_option maxRecDepth 100000 in
set_option maxHeartbeats 4000000 in
theorem q_La_law_l28 {C : Cx} {nx : Nat} (hnx : 102 ≤ nx) (hnK : KN ≤ nx) (x5 : Int) (hL : xL C ≤ 2048) (s : Sg) {o : Int × Sg} (hs : La_law_l28 (xL C) x5 s = some o) : ww C M_L_law 17 601024 7293034 nx (QI nx o.2 o.1) (XF) nx (3 * x5.toNat + 1000) (18 * x5.toNat + 100000) 28 [(0, .ref 1200), (1, .ref 0), (2, .ref 80), (3, .ref 100), (4, .ref 101), (5, vi x5)] [] (hp nx s) := by
  unfold La_law_l28 at hs
  refine bnd_e hs (fun s_544 hw hs => ?_)
  have hE : ww C M_L_law 17 601024 7293034 nx (QI nx o.2 o.1) (XF) nx 8000 150000 2713 [] [] (hp nx s_544) := by
    refine x_iconst dL_law_2713 ?_
    cases hs
    exact x_zreturn (Or.inr rfl) dL_law_2714 rfl rfl (Nat.le_of_ble_eq_true rfl) (Nat.le_of_ble_eq_true rfl) ⟨rfl, rfl⟩
  refine whl_w (P := fun σ => ww C M_L_law 17 601024 7293034 nx (QI nx o.2 o.1) (XF) nx (3 * σ.1.toNat + 1000) (18 * σ.1.toNat + 100000) 28 [(0, .ref 1200), (1, .ref 0), (2, .ref 80), (3, .ref 100), (4, .ref 101), (5, vi σ.1)] [] (hp nx σ.2)) (E := fun ρ => ρ = s_544) hw rfl ?_
  intro σ o' hs' hb' he'
  exact q_La_law_t28 hnx hnK σ.1 hL σ.2 hs' hb' (fun ρ e => by cases he' _ e; exact hE)

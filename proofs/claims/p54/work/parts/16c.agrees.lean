abbrev M_L_agrees : Mk := (yL_agrees, cL_agrees, 2, (some .boolean), [])
theorem lk0_L_groups : LK0 M_L_groups 2 := ⟨(lw_all_mem (List.mem_append_right _ (List.mem_of_getElem? (i := 0) (by decide +kernel))) (by decide +kernel)), (lw_all_mem (List.mem_append_right _ (List.mem_of_getElem? (i := 1231) (by decide +kernel))) (by decide +kernel)), ⟨by decide +kernel, by decide +kernel, by decide +kernel⟩, by decide +kernel⟩
theorem ls_202 {M : Mk} (h : (mY M).cls = RL) : LKS M M_L_groups 202 2 := ⟨lk0_L_groups, by rw [h]; exact (lw_all_mem (List.mem_append_right _ (List.mem_of_getElem? (i := 1229) (by decide +kernel))) (by decide +kernel)), (lw_all_mem (List.mem_append_right _ (List.mem_of_getElem? (i := 1230) (by decide +kernel))) (by decide +kernel)), h.symm⟩
theorem lk0_L_bridges : LK0 M_L_bridges 2 := ⟨(lw_all_mem (List.mem_append_right _ (List.mem_of_getElem? (i := 0) (by decide +kernel))) (by decide +kernel)), (lw_all_mem (List.mem_append_right _ (List.mem_of_getElem? (i := 1347) (by decide +kernel))) (by decide +kernel)), ⟨by decide +kernel, by decide +kernel, by decide +kernel⟩, by decide +kernel⟩
theorem ls_205 {M : Mk} (h : (mY M).cls = RL) : LKS M M_L_bridges 205 2 := ⟨lk0_L_bridges, by rw [h]; exact (lw_all_mem (List.mem_append_right _ (List.mem_of_getElem? (i := 1345) (by decide +kernel))) (by decide +kernel)), (lw_all_mem (List.mem_append_right _ (List.mem_of_getElem? (i := 1346) (by decide +kernel))) (by decide +kernel)), h.symm⟩
theorem lk0_L_ways : LK0 M_L_ways 2 := ⟨(lw_all_mem (List.mem_append_right _ (List.mem_of_getElem? (i := 0) (by decide +kernel))) (by decide +kernel)), (lw_all_mem (List.mem_append_right _ (List.mem_of_getElem? (i := 1372) (by decide +kernel))) (by decide +kernel)), ⟨by decide +kernel, by decide +kernel, by decide +kernel⟩, by decide +kernel⟩
theorem ls_207 {M : Mk} (h : (mY M).cls = RL) : LKS M M_L_ways 207 2 := ⟨lk0_L_ways, by rw [h]; exact (lw_all_mem (List.mem_append_right _ (List.mem_of_getElem? (i := 1370) (by decide +kernel))) (by decide +kernel)), (lw_all_mem (List.mem_append_right _ (List.mem_of_getElem? (i := 1371) (by decide +kernel))) (by decide +kernel)), h.symm⟩
theorem lk0_L_threats : LK0 M_L_threats 2 := ⟨(lw_all_mem (List.mem_append_right _ (List.mem_of_getElem? (i := 0) (by decide +kernel))) (by decide +kernel)), (lw_all_mem (List.mem_append_right _ (List.mem_of_getElem? (i := 1415) (by decide +kernel))) (by decide +kernel)), ⟨by decide +kernel, by decide +kernel, by decide +kernel⟩, by decide +kernel⟩
theorem ls_210 {M : Mk} (h : (mY M).cls = RL) : LKS M M_L_threats 210 2 := ⟨lk0_L_threats, by rw [h]; exact (lw_all_mem (List.mem_append_right _ (List.mem_of_getElem? (i := 1413) (by decide +kernel))) (by decide +kernel)), (lw_all_mem (List.mem_append_right _ (List.mem_of_getElem? (i := 1414) (by decide +kernel))) (by decide +kernel)), h.symm⟩
theorem lk0_X11_append : LK0 M_X11_append 1 := ⟨(lw_all_mem (List.mem_append_right _ (List.mem_of_getElem? (i := 1) (by decide +kernel))) (by decide +kernel)), (lw_all_mem (List.mem_append_right _ (List.mem_of_getElem? (i := 717) (by decide +kernel))) (by decide +kernel)), ⟨by decide +kernel, by decide +kernel, by decide +kernel⟩, by decide +kernel⟩
theorem lk0_X11_load : LK0 M_X11_load 0 := ⟨(lw_all_mem (List.mem_append_right _ (List.mem_of_getElem? (i := 1) (by decide +kernel))) (by decide +kernel)), (lw_all_mem (List.mem_append_right _ (List.mem_of_getElem? (i := 726) (by decide +kernel))) (by decide +kernel)), ⟨by decide +kernel, by decide +kernel, by decide +kernel⟩, by decide +kernel⟩
theorem lv_24 {M : Mk} (h : (mY M).cls = RL) : LKV M M_X11_append 24 1 := ⟨lk0_X11_append, by rw [h]; exact (lw_all_mem (List.mem_append_right _ (List.mem_of_getElem? (i := 714) (by decide +kernel))) (by decide +kernel)), (lw_all_mem (List.mem_append_right _ (List.mem_of_getElem? (i := 715) (by decide +kernel))) (by decide +kernel)), (lw_all_mem (List.mem_append_right _ (List.mem_of_getElem? (i := 716) (by decide +kernel))) (by decide +kernel))⟩
theorem lv_30 {M : Mk} (h : (mY M).cls = RL) : LKV M M_X11_load 30 0 := ⟨lk0_X11_load, by rw [h]; exact (lw_all_mem (List.mem_append_right _ (List.mem_of_getElem? (i := 723) (by decide +kernel))) (by decide +kernel)), (lw_all_mem (List.mem_append_right _ (List.mem_of_getElem? (i := 724) (by decide +kernel))) (by decide +kernel)), (lw_all_mem (List.mem_append_right _ (List.mem_of_getElem? (i := 725) (by decide +kernel))) (by decide +kernel))⟩
theorem lv_14 {M : Mk} (h : (mY M).cls = RL) : LKV M MJ_length 14 0 := ⟨lk0J_length, by rw [h]; exact (lw_all_mem (List.mem_append_right _ (List.mem_of_getElem? (i := 698) (by decide +kernel))) (by decide +kernel)), (lw_all_mem (List.mem_append_right _ (List.mem_of_getElem? (i := 434) (by decide +kernel))) (by decide +kernel)), (lw_all_mem (List.mem_append_right _ (List.mem_of_getElem? (i := 435) (by decide +kernel))) (by decide +kernel))⟩
theorem lv_20 {M : Mk} (h : (mY M).cls = RL) : LKV M MJ_charAt 20 1 := ⟨lk0J_charAt, by rw [h]; exact (lw_all_mem (List.mem_append_right _ (List.mem_of_getElem? (i := 699) (by decide +kernel))) (by decide +kernel)), (lw_all_mem (List.mem_append_right _ (List.mem_of_getElem? (i := 700) (by decide +kernel))) (by decide +kernel)), (lw_all_mem (List.mem_append_right _ (List.mem_of_getElem? (i := 701) (by decide +kernel))) (by decide +kernel))⟩
theorem lv_74 {M : Mk} (h : (mY M).cls = RL) : LKV M M_X11_size 74 1 := ⟨lk0_X11_size, by rw [h]; exact (lw_all_mem (List.mem_append_right _ (List.mem_of_getElem? (i := 857) (by decide +kernel))) (by decide +kernel)), (lw_all_mem (List.mem_append_right _ (List.mem_of_getElem? (i := 858) (by decide +kernel))) (by decide +kernel)), (lw_all_mem (List.mem_append_right _ (List.mem_of_getElem? (i := 859) (by decide +kernel))) (by decide +kernel))⟩
noncomputable def La_side (nx : Nat) (x1 : Int) (s : Sg) : Option Sg :=
  bnd2 (La_groups x1 s) fun y1 s2 => ifEq y1 0 none <|
  bnd2 (La_bridges x1 nx (zr s2 nx)) fun y3 s4 => ifEq y3 0 none <|
  bnd2 (La_ways x1 s4) fun y5 s6 => ifEq y5 0 none <|
  bnd2 (La_threats x1 s6) fun y7 s8 => ifEq y7 0 none (some s8)
noncomputable def La_agrees (nx : Nat) (s : Sg) : Option Sg :=
  bndr (Hx_size 1 s) fun y1 s1 => bndr (Hx_size 2 s1) fun y2 s2 => bndr (Hx_size 3 s2) fun y3 s3 => bndr (Hx_size 0 s3) fun y4 s4 => bndr (Hx_size 0 s4) fun y5 s5 =>
  ifEq (y1 + y2 + y3) (y4 * y5) (bnd (La_side nx 0 s5) fun s6 => La_side (nx + 1) 1 s6) none
set_option maxRecDepth 100000 in
theorem q_La_side {C : Cx} {nx : Nat} (hnx : 80 ≤ nx) {Qr : Option Value → Hp → Prop} {Qx : String → Hp → Prop} {ne k n : Nat} (hs81 : shC C nx = some (.inr (.boolean, 81))) (x1 : Int) (hk : k + 1 ≤ 2) (hn : n + 81 ≤ 162) (s : Sg) {o : Sg} (hs : La_side nx x1 s = some o) (kk : ww C M_L_agrees 12 2 162 ne Qr Qx (nx + 1) (k + 1) (n + 81) 74 [(0, .ref 0), (1, vi x1)] [] (hp (nx + 1) o)) : ww C M_L_agrees 12 2 162 ne Qr Qx nx k n 40 [(0, .ref 0), (1, vi x1)] [] (hp nx s) := by
  unfold La_side at hs
  have hnx1 : 80 ≤ nx + 1 := Nat.le_succ_of_le hnx
  refine w_aload_n 0 dL_agrees_40 rfl rfl ?_
  refine w_iload_n 1 dL_agrees_41 rfl rfl ?_
  refine x_S_B M_L_groups [.ref 0, vi x1] [] hs rfl dL_agrees_42 (ls_202 rfl) (Nat.le_of_ble_eq_true rfl) (by omega) (by omega) (Nat.le_of_ble_eq_true rfl) (c_La_groups hnx x1 s) (fun y1 s2 hy1 hs => ?_)
  refine x_ifeq hs dL_agrees_45 rfl (fun hs => by cases hs) (fun hs => ?_)
  refine w_aload_n 0 dL_agrees_48 rfl rfl ?_
  refine w_iload_n 1 dL_agrees_49 rfl rfl ?_
  refine bnd2_e hs fun y3 s4 hy3 hs => ?_
  refine w_callS M_L_bridges [.ref 0, vi x1] (st := []) dL_agrees_50 (ls_205 rfl) (Nat.le_of_ble_eq_true rfl) hk hn (Nat.le_of_ble_eq_true rfl) (c_La_bridges hnx hs81 x1 s2 _ hy3) XOK.no (fun v h' hq => ?_)
  obtain ⟨rfl, rfl⟩ := hq
  refine x_ifeq hs dL_agrees_53 rfl (fun hs => by cases hs) (fun hs => ?_)
  refine w_aload_n 0 dL_agrees_56 rfl rfl ?_
  refine w_iload_n 1 dL_agrees_57 rfl rfl ?_
  refine x_S_B M_L_ways [.ref 0, vi x1] [] hs rfl dL_agrees_58 (ls_207 rfl) (Nat.le_of_ble_eq_true rfl) (by omega) (by omega) (Nat.le_of_ble_eq_true rfl) (c_La_ways hnx1 x1 s4) (fun y5 s6 hy5 hs => ?_)
  refine x_ifeq hs dL_agrees_61 rfl (fun hs => by cases hs) (fun hs => ?_)
  refine w_aload_n 0 dL_agrees_64 rfl rfl ?_
  refine w_iload_n 1 dL_agrees_65 rfl rfl ?_
  refine x_S_B M_L_threats [.ref 0, vi x1] [] hs rfl dL_agrees_66 (ls_210 rfl) (Nat.le_of_ble_eq_true rfl) (by omega) (by omega) (Nat.le_of_ble_eq_true rfl) (c_La_threats hnx1 x1 s6) (fun y7 s8 hy7 hs => ?_)
  refine x_ifne hs dL_agrees_69 rfl (fun hs => ?_) (fun hs => by cases hs)
  cases hs
  exact kk
set_option maxRecDepth 100000 in
theorem c_La_agrees {C : Cx} {nx : Nat} (hnx : 80 ≤ nx) (hs81 : shC C nx = some (.inr (.boolean, 81))) (hs82 : shC C (nx + 1) = some (.inr (.boolean, 81))) (s : Sg) : ∀ o, La_agrees nx s = some o → mm C M_L_agrees 12 2 162 nx (nx + 1 + 1) [.ref 0] (hp nx s) (QI (nx + 1 + 1) o 1) XF := by
  intro o hs
  unfold La_agrees at hs
  refine mm_of rfl rfl (Nat.le_of_ble_eq_true rfl) ?_
  show ww C M_L_agrees 12 2 162 (nx + 1 + 1) (QI (nx + 1 + 1) o 1) (XF) nx 0 0 0 [(0, .ref 0)] [] (hp nx s)
  refine w_aload_n 0 dL_agrees_0 rfl rfl ?_
  refine x_iconst dL_agrees_1 ?_
  refine x_V_Tr M_X11_size [vi 1] [] hs rfl dL_agrees_2 (lv_74 rfl) (lt_of hnx (Nat.le_of_ble_eq_true rfl)) rfl rfl (Nat.le_of_ble_eq_true rfl) (Nat.zero_le _) (Nat.zero_le _) (Nat.le_of_ble_eq_true rfl) (c_Hx_size hnx 1 s) (fun y1 s1 hy1 hs => ?_)
  refine w_aload_n 0 dL_agrees_5 rfl rfl ?_
  refine x_iconst dL_agrees_6 ?_
  refine x_V_Tr M_X11_size [vi 2] [vi y1] hs rfl dL_agrees_7 (lv_74 rfl) (lt_of hnx (Nat.le_of_ble_eq_true rfl)) rfl rfl (Nat.le_of_ble_eq_true rfl) (Nat.zero_le _) (Nat.zero_le _) (Nat.le_of_ble_eq_true rfl) (c_Hx_size hnx 2 s1) (fun y2 s2 hy2 hs => ?_)
  refine x_iadd dL_agrees_10 ?_
  refine w_aload_n 0 dL_agrees_11 rfl rfl ?_
  refine x_iconst dL_agrees_12 ?_
  refine x_V_Tr M_X11_size [vi 3] [vi (y1 + y2)] hs rfl dL_agrees_13 (lv_74 rfl) (lt_of hnx (Nat.le_of_ble_eq_true rfl)) rfl rfl (Nat.le_of_ble_eq_true rfl) (Nat.zero_le _) (Nat.zero_le _) (Nat.le_of_ble_eq_true rfl) (c_Hx_size hnx 3 s2) (fun y3 s3 hy3 hs => ?_)
  refine x_iadd dL_agrees_16 ?_
  refine w_aload_n 0 dL_agrees_17 rfl rfl ?_
  refine x_iconst dL_agrees_18 ?_
  refine x_V_Tr M_X11_size [vi 0] [vi (y1 + y2 + y3)] hs rfl dL_agrees_19 (lv_74 rfl) (lt_of hnx (Nat.le_of_ble_eq_true rfl)) rfl rfl (Nat.le_of_ble_eq_true rfl) (Nat.zero_le _) (Nat.zero_le _) (Nat.le_of_ble_eq_true rfl) (c_Hx_size hnx 0 s3) (fun y4 s4 hy4 hs => ?_)
  refine w_aload_n 0 dL_agrees_22 rfl rfl ?_
  refine x_iconst dL_agrees_23 ?_
  refine x_V_Tr M_X11_size [vi 0] [vi y4, vi (y1 + y2 + y3)] hs rfl dL_agrees_24 (lv_74 rfl) (lt_of hnx (Nat.le_of_ble_eq_true rfl)) rfl rfl (Nat.le_of_ble_eq_true rfl) (Nat.zero_le _) (Nat.zero_le _) (Nat.le_of_ble_eq_true rfl) (c_Hx_size hnx 0 s4) (fun y5 s5 hy5 hs => ?_)
  refine x_imul dL_agrees_27 ?_
  refine x_icmpeq hs dL_agrees_28 rfl (fun hs => ?_) (fun hs => by cases hs)
  refine x_iconst dL_agrees_33 ?_
  refine w_istore_n (lv' := [(1, vi 0), (0, .ref 0)]) dL_agrees_34 rfl (Nat.le_of_ble_eq_true rfl) rfl ?_
  refine w_lv (lv' := [(0, .ref 0), (1, vi 0)]) [1, 0] rfl ?_
  refine w_iload_n 1 dL_agrees_35 rfl rfl ?_
  refine x_iconst dL_agrees_36 ?_
  refine w_icmpge dL_agrees_37 rfl (fun q => absurd q (by decide)) (fun _ => ?_)
  refine bnd_e hs fun s6 hs6 hs => ?_
  refine q_La_side hnx hs81 0 (by omega) (by omega) s5 hs6 ?_
  refine x_iinc (lv' := [(1, vi 1), (0, .ref 0)]) 1 dL_agrees_74 rfl (Nat.le_of_ble_eq_true rfl) rfl ?_
  refine w_goto dL_agrees_77 rfl ?_
  refine w_lv (lv' := [(0, .ref 0), (1, vi 1)]) [1, 0] rfl ?_
  refine w_iload_n 1 dL_agrees_35 rfl rfl ?_
  refine x_iconst dL_agrees_36 ?_
  refine w_icmpge dL_agrees_37 rfl (fun q => absurd q (by decide)) (fun _ => ?_)
  refine q_La_side (Nat.le_succ_of_le hnx) hs82 1 (by omega) (by omega) s6 hs ?_
  refine x_iinc (lv' := [(1, vi 2), (0, .ref 0)]) 1 dL_agrees_74 rfl (Nat.le_of_ble_eq_true rfl) rfl ?_
  refine w_goto dL_agrees_77 rfl ?_
  refine w_iload_n 0 dL_agrees_35 rfl rfl ?_
  refine x_iconst dL_agrees_36 ?_
  refine w_icmpge dL_agrees_37 rfl (fun _ => ?_) (fun q => absurd (show Int32.ofInt 2 ≤ Int32.ofInt 2 by decide) q)
  refine x_iconst dL_agrees_80 ?_
  exact w_ireturn (ty := .boolean) rfl rfl dL_agrees_81 rfl (by omega) (by omega) ⟨rfl, rfl⟩

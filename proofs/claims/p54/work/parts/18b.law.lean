abbrev M_L_law : Mk := (yL_law, cL_law, 3, (some .boolean), [])
theorem ls_213 {M : Mk} (h : (mY M).cls = RL) : LKS M M_L_start 213 2 := ⟨lk0_L_start, by rw [h]; exact (lw_all_mem (List.mem_append_right _ (List.mem_of_getElem? (i := 413) (by decide +kernel))) (by decide +kernel)), (lw_all_mem (List.mem_append_right _ (List.mem_of_getElem? (i := 414) (by decide +kernel))) (by decide +kernel)), h.symm⟩
theorem lk0_L_step : LK0 M_L_step 3 := ⟨(lw_all_mem (List.mem_append_right _ (List.mem_of_getElem? (i := 0) (by decide +kernel))) (by decide +kernel)), (lw_all_mem (List.mem_append_right _ (List.mem_of_getElem? (i := 856) (by decide +kernel))) (by decide +kernel)), ⟨by decide +kernel, by decide +kernel, by decide +kernel⟩, by decide +kernel⟩
theorem ls_217 {M : Mk} (h : (mY M).cls = RL) : LKS M M_L_step 217 3 := ⟨lk0_L_step, by rw [h]; exact (lw_all_mem (List.mem_append_right _ (List.mem_of_getElem? (i := 854) (by decide +kernel))) (by decide +kernel)), (lw_all_mem (List.mem_append_right _ (List.mem_of_getElem? (i := 855) (by decide +kernel))) (by decide +kernel)), h.symm⟩
theorem lk0_L_agrees : LK0 M_L_agrees 1 := ⟨(lw_all_mem (List.mem_append_right _ (List.mem_of_getElem? (i := 0) (by decide +kernel))) (by decide +kernel)), (lw_all_mem (List.mem_append_right _ (List.mem_of_getElem? (i := 1228) (by decide +kernel))) (by decide +kernel)), ⟨by decide +kernel, by decide +kernel, by decide +kernel⟩, by decide +kernel⟩
theorem ls_221 {M : Mk} (h : (mY M).cls = RL) : LKS M M_L_agrees 221 1 := ⟨lk0_L_agrees, by rw [h]; exact (lw_all_mem (List.mem_append_right _ (List.mem_of_getElem? (i := 1226) (by decide +kernel))) (by decide +kernel)), (lw_all_mem (List.mem_append_right _ (List.mem_of_getElem? (i := 1227) (by decide +kernel))) (by decide +kernel)), h.symm⟩
theorem lk0_L_foresees : LK0 M_L_foresees 3 := ⟨(lw_all_mem (List.mem_append_right _ (List.mem_of_getElem? (i := 0) (by decide +kernel))) (by decide +kernel)), (lw_all_mem (List.mem_append_right _ (List.mem_of_getElem? (i := 1102) (by decide +kernel))) (by decide +kernel)), ⟨by decide +kernel, by decide +kernel, by decide +kernel⟩, by decide +kernel⟩
theorem ls_225 {M : Mk} (h : (mY M).cls = RL) : LKS M M_L_foresees 225 3 := ⟨lk0_L_foresees, by rw [h]; exact (lw_all_mem (List.mem_append_right _ (List.mem_of_getElem? (i := 1100) (by decide +kernel))) (by decide +kernel)), (lw_all_mem (List.mem_append_right _ (List.mem_of_getElem? (i := 1101) (by decide +kernel))) (by decide +kernel)), h.symm⟩
theorem nl_25 {M : Mk} (h : (mY M).cls = RL) : Cond.classLink (mY M).cls 25 (cR 11) ∈ lw_all ∧ Cond.instantiable (cR 11) (cn 11) ∈ lw_all ∧ Cond.initialized (cR 11) ∈ lw_all := ⟨by rw [h]; exact (lw_all_mem (List.mem_append_right _ (List.mem_of_getElem? (i := 29) (by decide +kernel))) (by decide +kernel)), (lw_all_mem (List.mem_append_right _ (List.mem_of_getElem? (i := 30) (by decide +kernel))) (by decide +kernel)), (lw_all_mem (List.mem_append_right _ (List.mem_of_getElem? (i := 1) (by decide +kernel))) (by decide +kernel))⟩
theorem li_212 {M : Mk} (h : (mY M).cls = RL) : LKI M M_X11_init 212 0 := ⟨lk0_X11_init, by rw [h]; exact (lw_all_mem (List.mem_append_right _ (List.mem_of_getElem? (i := 31) (by decide +kernel))) (by decide +kernel)), (lw_all_mem (List.mem_append_right _ (List.mem_of_getElem? (i := 32) (by decide +kernel))) (by decide +kernel)), rfl, rfl⟩
/-! ===== the law ===== -/
noncomputable def La_steps : Nat → Nat → Sg → Option Sg
  | 0, _, s => some s
  | r + 1, k, s => bnd (La_step (22 + 3 * (k : Int)) s) fun s' => La_steps r (k + 1) s'
noncomputable def La_tail (nx : Nat) (s : Sg) : Option Sg :=
  bnd (La_steps 14 0 s) fun s1 => bnd (La_agrees nx s1) fun s2 => bnd2 (La_foresees 70 s2) fun y s3 => ifEq y 0 none (some s3)
abbrev QL : Option Value → Hp → Prop := fun v _ => v = some (vi 1)
set_option maxRecDepth 100000 in
theorem q_steps {C : Cx} {nx ne k n : Nat} (hnx : 80 ≤ nx) (hk : k ≤ 600130) (hn : n ≤ 7301080) {s1 : Sg} (kk : ww C M_L_law 17 600130 7301080 ne QL XF nx k n 43 [(0, .ref 1200), (1, .ref 0)] [] (hp nx s1)) :
    ∀ (r i : Nat) (s : Sg), i + r = 14 → La_steps r i s = some s1 → ww C M_L_law 17 600130 7301080 ne QL XF nx k n 20 [(0, .ref 1200), (1, .ref 0), (2, vi (i : Int))] [] (hp nx s)
  | 0, i, s, hi, hs => by
    have hs' : s = s1 := Option.some.inj hs
    subst hs'
    refine w_iload_n 2 dL_law_20 rfl rfl ?_
    refine x_bipush dL_law_21 (by decide) ?_
    refine w_icmpge dL_law_23 rfl (fun _ => ?_) (fun q => absurd ((c32m (show R 14 by unfold R; omega) (show R (i : Int) by unfold R; omega)).mpr (by omega)) q)
    refine w_lv (lv' := [(0, .ref 1200), (1, .ref 0)]) [0, 1] rfl ?_
    exact kk
  | r + 1, i, s, hi, hs => by
    have hs' : bnd (La_step (22 + 3 * (i : Int)) s) (fun s' => La_steps r (i + 1) s') = some s1 := hs
    refine w_iload_n 2 dL_law_20 rfl rfl ?_
    refine x_bipush dL_law_21 (by decide) ?_
    refine w_icmpge dL_law_23 rfl (fun q => absurd ((c32m (show R 14 by unfold R; omega) (show R (i : Int) by unfold R; omega)).mp q) (by omega)) (fun _ => ?_)
    refine w_aload_n 1 dL_law_26 rfl rfl ?_
    refine w_aload_n 0 dL_law_27 rfl rfl ?_
    refine x_bipush dL_law_28 (by decide) ?_
    refine x_iconst dL_law_30 ?_
    refine w_iload_n 2 dL_law_31 rfl rfl ?_
    refine x_imul dL_law_32 ?_
    refine x_iadd dL_law_33 ?_
    refine x_S_V M_L_step [.ref 0, .ref 1200, vi (22 + 3 * (i : Int))] [] hs' rfl dL_law_34 (ls_217 rfl) (Nat.le_of_ble_eq_true rfl) hk hn (Nat.le_of_ble_eq_true rfl) (c_La_step hnx (22 + 3 * (i : Int)) s) (fun s2 hs2 hs => ?_)
    refine x_iinc (lv' := [(2, vi ((i : Int) + 1)), (0, .ref 1200), (1, .ref 0)]) 2 dL_law_37 rfl (Nat.le_of_ble_eq_true rfl) rfl ?_
    refine w_goto dL_law_40 rfl ?_
    refine w_lv (lv' := [(0, .ref 1200), (1, .ref 0), (2, vi ((i : Int) + 1))]) [1, 2, 0] rfl ?_
    rw [show ((i : Int) + 1) = ((i + 1 : Nat) : Int) by omega]
    exact q_steps hnx hk hn kk r (i + 1) s2 (by omega) hs
set_option maxRecDepth 100000 in
theorem w_law {C : Cx} {s0 s : Sg} {z zz T : Nat} (hctor : Hx_starts s = some s0) (hH : StH C s0 z zz T) (hz : ((z : Nat) : Int) = 2 + clv s0 0 % 5) (hTT : T = (txE (clv s0) z).length) (h81 : shC C 81 = some (.inl 13)) (hsa : shC C (83 + cof T) = some (.inl 12)) (hsb : shC C (84 + cof T) = some (.inr (.byte, T))) (ht1 : shC C (83 + cof T + 1 + 1) = some (.inr (.boolean, 81))) (ht2 : shC C (83 + cof T + 1 + 1 + 1) = some (.inr (.boolean, 81)))
    (hL : ∀ j, j < (txE (clv s0) z).length → 0 ≤ (txE (clv s0) z).getD j 0 ∧ (txE (clv s0) z).getD j 0 < 128)
    (hload : ∀ s', FrX (cof T) s0 s' → Txt s' (83 + cof T) (txE (clv s0) z) → ∃ o o2, La_load (83 + cof T) (txE (clv s0) z) s' = some o ∧ (0 ≤ o.1 ∧ R o.1) ∧ La_tail (83 + cof T + 1 + 1) o.2 = some o2) :
    ww C M_L_law 17 600130 7301080 (83 + cof T + 1 + 1 + 1 + 1) QL XF 0 0 0 0 [(0, .ref 1200)] [] (hp 0 s) := by
  rw [hp_0]
  have hcn : cn 11 = 16 := by decide
  refine c_new (nx' := 1) (k' := 1) (n' := 16) 11 dL_law_0 (shp_C rfl) (nl_25 rfl) (Nat.le_of_ble_eq_true rfl) (Nat.le_of_ble_eq_true rfl) rfl rfl rfl ?_
  refine w_dup dL_law_3 rfl ?_
  refine c_init M_X11_init [] [.ref 0] rfl (show 1 + 79 = 80 from rfl) (show 16 + 8178 = 8194 from rfl) dL_law_4 (li_212 rfl) (Nat.le_of_ble_eq_true rfl) (Nat.le_of_ble_eq_true rfl) (Nat.le_of_ble_eq_true rfl) (Nat.le_of_ble_eq_true rfl) (i_0 s s0 hctor) ?_
  refine w_astore_n (lv' := [(1, .ref 0), (0, .ref 1200)]) dL_law_7 rfl (Nat.le_of_ble_eq_true rfl) rfl ?_
  refine w_aload_n 0 dL_law_8 rfl rfl ?_
  refine w_aload_n 1 dL_law_9 rfl rfl ?_
  refine w_callS M_L_start [.ref 0, .ref 1200] (st := []) dL_law_10 (ls_213 rfl) (Nat.le_of_ble_eq_true rfl) (Nat.le_of_ble_eq_true rfl) (Nat.le_of_ble_eq_true rfl) (Nat.le_of_ble_eq_true rfl) (c_La_start hH hz hTT h81 hsa hsb hL (fun s' h1 h2 => by
    obtain ⟨o, -, ho, -⟩ := hload s' h1 h2
    exact ⟨o, ho⟩)) XOK.no (fun v h' hq9 => ?_)
  obtain ⟨s', o, hX, hT, ho, rfl, rfl⟩ := hq9
  obtain ⟨o', o2, ho', ho0, ho2⟩ := hload s' hX hT
  cases ho.symm.trans ho'
  refine w_ifge dL_law_13 rfl (fun _ => ?_) (fun q => absurd ((zGe ho0.2).mpr ho0.1) q)
  refine x_iconst dL_law_18 ?_
  refine w_istore_n (lv' := [(2, vi 0), (1, .ref 0), (0, .ref 1200)]) dL_law_19 rfl (Nat.le_of_ble_eq_true rfl) rfl ?_
  refine w_lv (lv' := [(0, .ref 1200), (1, .ref 0), (2, vi ((0 : Nat) : Int))]) [2, 1, 0] rfl ?_
  unfold La_tail at ho2
  refine bnd_e ho2 fun s1 h1 ho2 => ?_
  refine bnd_e ho2 fun s2 h2 ho2 => ?_
  have hnx : 80 ≤ 83 + cof T + 1 + 1 := by omega
  refine q_steps hnx (by omega) (by omega) ?_ 14 0 o.2 rfl h1
  refine w_aload_n 1 dL_law_43 rfl rfl ?_
  refine w_callS M_L_agrees [.ref 0] (st := []) dL_law_44 (ls_221 rfl) (Nat.le_of_ble_eq_true rfl) (Nat.le_of_ble_eq_true rfl) (Nat.le_of_ble_eq_true rfl) (Nat.le_of_ble_eq_true rfl) (c_La_agrees hnx ht1 ht2 s1 s2 h2) XOK.no (fun v h' hq9 => ?_)
  obtain ⟨rfl, rfl⟩ := hq9
  refine w_ifeq dL_law_47 rfl (fun q => absurd q (by decide)) (fun _ => ?_)
  refine w_aload_n 1 dL_law_50 rfl rfl ?_
  refine w_aload_n 0 dL_law_51 rfl rfl ?_
  refine x_bipush dL_law_52 (by decide) ?_
  refine x_S_B M_L_foresees [.ref 0, .ref 1200, vi 70] [] ho2 rfl dL_law_54 (ls_225 rfl) (Nat.le_of_ble_eq_true rfl) (Nat.le_of_ble_eq_true rfl) (Nat.le_of_ble_eq_true rfl) (Nat.le_of_ble_eq_true rfl) (c_La_foresees (by omega) 70 s2) (fun y s3 hy ho2 => ?_)
  refine x_ifeq ho2 dL_law_57 rfl (fun hs => by cases hs) (fun hs => ?_)
  refine x_iconst dL_law_60 ?_
  refine w_goto dL_law_61 rfl ?_
  exact w_ireturn (ty := .boolean) rfl rfl dL_law_65 rfl (Nat.le_of_ble_eq_true rfl) (Nat.le_of_ble_eq_true rfl) rfl

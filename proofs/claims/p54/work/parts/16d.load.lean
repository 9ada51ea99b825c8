/-! ===== a text loaded ===== -/
noncomputable def La_ldw (a : Nat) (L : List Int) : List Int → Nat → Int → Sg → Option Sg
  | [], _, _, s => grd (Txt s a L) (some s)
  | x :: t, k, w, s => grd (Txt s a L) (if k % 8 = 7 ∨ t = [] then bnd2 (Hx_append (lorI (lshlI w 8) x) s) (fun _ s' => La_ldw a L t (k + 1) 0 s') else La_ldw a L t (k + 1) (lorI (lshlI w 8) x) s)
noncomputable def La_load (a : Nat) (L : List Int) (s : Sg) : Option (Int × Sg) := bnd (La_ldw a L L 0 0 s) fun s' => Hx_load s'
set_option maxRecDepth 100000 in
theorem q_La_ldw {C : Cx} {nx : Nat} (hnx : 80 ≤ nx) {a : Nat} {L : List Int} (hsa : shC C a = some (.inl 12)) (hsb : shC C (a + 1) = some (.inr (.byte, L.length))) (ha : KN ≤ a ∧ a + 1 < nx) (hm : L.length ≤ 94) (hL : ∀ j, j < L.length → 0 ≤ L.getD j 0 ∧ L.getD j 0 < 128) :
    ∀ (t : List Int) (k : Nat) (w : Int) (s s' : Sg), L.drop k = t → k ≤ L.length → La_ldw a L t k w s = some s' → ∀ o, Hx_load s' = some o → ww C M_L_load 15 0 0 nx (QI nx o.2 o.1) XF nx 0 0 5 [(0, .ref 0), (1, .ref a), (2, vl w), (4, vi (k : Int))] [] (hp nx s)
  | [], k, w, s, s', hd, hk, hs, o, ho => by
    have hkL : k = L.length := by
      have := congrArg List.length hd
      rw [List.length_drop] at this
      simp at this
      omega
    unfold La_ldw at hs
    refine grd_e hs (fun hT hs => ?_)
    cases hs
    refine w_iload 3 dL_load_5 rfl ?_
    refine w_aload_n 1 dL_load_7 rfl rfl ?_
    refine w_callV MJ_length [] (st := [vi (k : Int)]) dL_load_8 (lv_14 rfl) (by omega) hsa rfl (Nat.le_of_ble_eq_true rfl) (Nat.le_of_ble_eq_true rfl) (Nat.le_of_ble_eq_true rfl) (Nat.le_of_ble_eq_true rfl) (cD_len hsa hsb ha hm hT.2.1 hT.1) XOK.no (fun v h' hq => ?_)
    obtain ⟨rfl, rfl⟩ := hq
    refine w_icmpge dL_load_11 rfl (fun _ => ?_) (fun q => absurd ((c32m (show R (L.length : Int) by unfold R; omega) (show R (k : Int) by unfold R; omega)).mpr (by omega)) q)
    refine w_aload_n 0 dL_load_65 rfl rfl ?_
    have hs2 : bnd2 (Hx_load s) (fun y s => some (y, s)) = some o := by rw [ho]; rfl
    refine x_V_B M_X11_load [] [] hs2 rfl dL_load_66 (lv_30 rfl) (lt_of hnx (Nat.le_of_ble_eq_true rfl)) rfl rfl (Nat.le_of_ble_eq_true rfl) (Nat.le_of_ble_eq_true rfl) (Nat.le_of_ble_eq_true rfl) (Nat.le_of_ble_eq_true rfl) (c_Hx_load hnx s) (fun y1 s1 hy1 hs2 => ?_)
    cases hs2
    exact w_ireturn (ty := .int) rfl rfl dL_load_69 rfl (Nat.le_of_ble_eq_true rfl) (Nat.le_of_ble_eq_true rfl) ⟨rfl, rfl⟩
  | x :: t, k, w, s, s', hd, hk, hs, o, ho => by
    have hkL : k < L.length := by
      have := congrArg List.length hd
      rw [List.length_drop] at this
      simp at this
      omega
    have hx : L.getD k 0 = x := by
      have h0 : (L.drop k)[0]? = some x := by rw [hd]; rfl
      rw [List.getElem?_drop, Nat.add_zero] at h0
      rw [List.getD_eq_getElem?_getD, h0]
      rfl
    have ht : L.drop (k + 1) = t := by
      rw [← List.drop_drop, hd]
      rfl
    have htl : t = [] ↔ k + 1 = L.length := by
      constructor
      · intro e
        rw [e] at ht
        have := congrArg List.length ht
        rw [List.length_drop] at this
        simp at this
        omega
      · intro e
        rw [← ht, e]
        simp
    have hc := hL k hkL
    rw [hx] at hc
    have hRk : R (k : Int) := by unfold R; omega
    have hRl : R (L.length : Int) := by unfold R; omega
    have ih := q_La_ldw hnx hsa hsb ha hm hL t (k + 1)
    unfold La_ldw at hs
    refine grd_e hs (fun hT hs => ?_)
    have hgx : gi s (a + 1) k = x := (hT.2.2 k hkL).trans hx
    refine w_iload 3 dL_load_5 rfl ?_
    refine w_aload_n 1 dL_load_7 rfl rfl ?_
    refine w_callV MJ_length [] (st := [vi (k : Int)]) dL_load_8 (lv_14 rfl) (by omega) hsa rfl (Nat.le_of_ble_eq_true rfl) (Nat.le_of_ble_eq_true rfl) (Nat.le_of_ble_eq_true rfl) (Nat.le_of_ble_eq_true rfl) (cD_len hsa hsb ha hm hT.2.1 hT.1) XOK.no (fun v h' hq => ?_)
    obtain ⟨rfl, rfl⟩ := hq
    refine w_icmpge dL_load_11 rfl (fun q => absurd ((c32m hRl hRk).mp q) (by omega)) (fun _ => ?_)
    refine w_lload_n 2 dL_load_14 rfl rfl ?_
    refine x_bipush dL_load_15 (by decide) ?_
    refine x_lshl dL_load_17 ?_
    refine w_aload_n 1 dL_load_18 rfl rfl ?_
    refine w_iload 3 dL_load_19 rfl ?_
    refine w_callV MJ_charAt [vi (k : Int)] (st := [vl (lshlI w 8)]) dL_load_21 (lv_20 rfl) (by omega) hsa rfl (Nat.le_of_ble_eq_true rfl) (Nat.le_of_ble_eq_true rfl) (Nat.le_of_ble_eq_true rfl) (Nat.le_of_ble_eq_true rfl) (cD_chr hsa hsb ha hm hT.2.1 hT.1 hkL hgx hc) XOK.no (fun v h' hq => ?_)
    obtain ⟨rfl, rfl⟩ := hq
    refine x_i2l dL_load_24 (show R x by unfold R; omega) ?_
    refine x_lor dL_load_25 ?_
    refine w_lstore_n (lv' := [(2, vl (lorI (lshlI w 8) x)), (0, .ref 0), (1, .ref a), (4, vi (k : Int))]) dL_load_26 rfl (Nat.le_of_ble_eq_true rfl) rfl ?_
    refine w_lv (lv' := [(0, .ref 0), (1, .ref a), (2, vl (lorI (lshlI w 8) x)), (4, vi (k : Int))]) [1, 2, 0, 3] rfl ?_
    refine w_iload 3 dL_load_27 rfl ?_
    refine x_bipush dL_load_29 (by decide) ?_
    refine x_irem dL_load_31 ⟨⟨Int.natCast_nonneg k, hRk⟩, by decide, by unfold R; omega⟩ ?_
    refine x_bipush dL_load_32 (by decide) ?_
    have hRm : R ((k : Int) % 8) := by unfold R; omega
    have k51 : (k % 8 = 7 ∨ t = []) → ww C M_L_load 15 0 0 nx (QI nx o.2 o.1) XF nx (0 + 0 + 0) (0 + 0 + 0) 51 [(0, .ref 0), (1, .ref a), (2, vl (lorI (lshlI w 8) x)), (4, vi (k : Int))] [] (hp nx s) := by
      intro hcnd
      rw [if_pos hcnd] at hs
      refine w_aload_n 0 dL_load_51 rfl rfl ?_
      refine w_lload_n 2 dL_load_52 rfl rfl ?_
      refine x_V_B M_X11_append [vl (lorI (lshlI w 8) x)] [] hs rfl dL_load_53 (lv_24 rfl) (lt_of hnx (Nat.le_of_ble_eq_true rfl)) rfl rfl (Nat.le_of_ble_eq_true rfl) (Nat.le_of_ble_eq_true rfl) (Nat.le_of_ble_eq_true rfl) (Nat.le_of_ble_eq_true rfl) (c_Hx_append hnx (lorI (lshlI w 8) x) s) (fun y1 s1 hy1 hs => ?_)
      refine w_pop dL_load_56 rfl ?_
      refine x_lconst dL_load_57 rfl ?_
      refine w_lstore_n (lv' := [(2, vl 0), (0, .ref 0), (1, .ref a), (4, vi (k : Int))]) dL_load_58 rfl (Nat.le_of_ble_eq_true rfl) rfl ?_
      refine x_iinc (lv' := [(4, vi ((k : Int) + 1)), (2, vl 0), (0, .ref 0), (1, .ref a)]) 3 dL_load_59 rfl (Nat.le_of_ble_eq_true rfl) rfl ?_
      refine w_goto dL_load_62 rfl ?_
      refine w_lv (lv' := [(0, .ref 0), (1, .ref a), (2, vl 0), (4, vi ((k : Int) + 1))]) [2, 3, 1, 0] rfl ?_
      rw [show ((k : Int) + 1) = ((k + 1 : Nat) : Int) by omega]
      exact ih 0 s1 s' ht hkL hs o ho
    by_cases h7 : k % 8 = 7
    · refine w_icmpeq dL_load_34 rfl (fun _ => k51 (Or.inl h7)) (fun q => absurd ((c32e hRm (by unfold R; omega)).mpr (by omega)) q)
    · refine w_icmpeq dL_load_34 rfl (fun q => absurd ((c32e hRm (by unfold R; omega)).mp q) (by omega)) (fun _ => ?_)
      refine w_iload 3 dL_load_37 rfl ?_
      refine w_aload_n 1 dL_load_39 rfl rfl ?_
      refine w_callV MJ_length [] (st := [vi (k : Int)]) dL_load_40 (lv_14 rfl) (by omega) hsa rfl (Nat.le_of_ble_eq_true rfl) (Nat.le_of_ble_eq_true rfl) (Nat.le_of_ble_eq_true rfl) (Nat.le_of_ble_eq_true rfl) (cD_len hsa hsb ha hm hT.2.1 hT.1) XOK.no (fun v h' hq => ?_)
      obtain ⟨rfl, rfl⟩ := hq
      refine x_iconst dL_load_43 ?_
      refine x_isub dL_load_44 ?_
      have hRl1 : R ((L.length : Int) - 1) := by unfold R; omega
      by_cases hl : t = []
      · refine w_icmpeq dL_load_45 rfl (fun _ => k51 (Or.inr hl)) (fun q => absurd ((c32e hRk hRl1).mpr (by have := htl.mp hl; omega)) q)
      · refine w_icmpeq dL_load_45 rfl (fun q => absurd ((c32e hRk hRl1).mp q) (by have h9 : ¬ k + 1 = L.length := fun e => hl (htl.mpr e); omega)) (fun _ => ?_)
        rw [if_neg (fun e => e.elim h7 hl)] at hs
        refine w_goto dL_load_48 rfl ?_
        refine x_iinc (lv' := [(4, vi ((k : Int) + 1)), (0, .ref 0), (1, .ref a), (2, vl (lorI (lshlI w 8) x))]) 3 dL_load_59 rfl (Nat.le_of_ble_eq_true rfl) rfl ?_
        refine w_goto dL_load_62 rfl ?_
        refine w_lv (lv' := [(0, .ref 0), (1, .ref a), (2, vl (lorI (lshlI w 8) x)), (4, vi ((k : Int) + 1))]) [1, 2, 3, 0] rfl ?_
        rw [show ((k : Int) + 1) = ((k + 1 : Nat) : Int) by omega]
        exact ih (lorI (lshlI w 8) x) s s' ht hkL hs o ho
set_option maxRecDepth 100000 in
theorem c_La_load {C : Cx} {nx : Nat} (hnx : 80 ≤ nx) {a : Nat} {L : List Int} (hsa : shC C a = some (.inl 12)) (hsb : shC C (a + 1) = some (.inr (.byte, L.length))) (ha : KN ≤ a ∧ a + 1 < nx) (hm : L.length ≤ 94) (hL : ∀ j, j < L.length → 0 ≤ L.getD j 0 ∧ L.getD j 0 < 128) (s : Sg) : ∀ o, La_load a L s = some o → mm C M_L_load 15 0 0 nx nx [.ref 0, .ref a] (hp nx s) (QI nx o.2 o.1) XF := by
  intro o hs
  unfold La_load at hs
  refine bnd_e hs fun s' hs' ho => ?_
  refine mm_of rfl rfl (Nat.le_of_ble_eq_true rfl) ?_
  show ww C M_L_load 15 0 0 nx (QI nx o.2 o.1) XF nx 0 0 0 [(0, .ref 0), (1, .ref a)] [] (hp nx s)
  refine x_lconst dL_load_0 rfl ?_
  refine w_lstore_n (lv' := [(2, vl 0), (0, .ref 0), (1, .ref a)]) dL_load_1 rfl (Nat.le_of_ble_eq_true rfl) rfl ?_
  refine x_iconst dL_load_2 ?_
  refine w_istore (lv' := [(4, vi 0), (2, vl 0), (0, .ref 0), (1, .ref a)]) dL_load_3 (Nat.le_of_ble_eq_true rfl) rfl ?_
  refine w_lv (lv' := [(0, .ref 0), (1, .ref a), (2, vl 0), (4, vi 0)]) [2, 3, 1, 0] rfl ?_
  exact q_La_ldw hnx hsa hsb ha hm hL L 0 0 s s' rfl (Nat.zero_le _) hs' o ho

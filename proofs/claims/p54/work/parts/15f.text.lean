/-! ===== a text read; a number out of the script ===== -/
theorem chr_v {x : Int} (h : 0 ≤ x ∧ x < 128) : iandI x 255 = x ∧ ((Int32.ofInt x).toUInt32 % 65536).toInt32 = Int32.ofInt x ∧ narrow .char (.int (Int32.ofInt x)) = .int (Int32.ofInt x) := by
  have h1 : ∀ n : Nat, n < 128 → iandI (n : Int) 255 = (n : Int) ∧ ((Int32.ofInt (n : Int)).toUInt32 % 65536).toInt32 = Int32.ofInt (n : Int) ∧ narrow .char (.int (Int32.ofInt (n : Int))) = .int (Int32.ofInt (n : Int)) := by decide +kernel
  have h2 := h1 x.toNat (by omega)
  rw [show ((x.toNat : Nat) : Int) = x by omega] at h2
  exact h2
section CELL
variable {C : Cx} {M : Mk} {d mc ms ne : Nat} {Qr : Option Value → Hp → Prop} {Qx : String → Hp → Prop} {nx k n pc : Nat} {lv lv' : List (Nat × Value)} {st stk : List Value} {h : Hp} {s : Sg}
theorem ww_p2 (kk : (∀ i, 1000 ≤ i → ∀ j, Int32.ofInt (gi s i j) = xV C i j) → ww C M d mc ms ne Qr Qx nx k n pc lv st (hp nx s)) : ww C M d mc ms ne Qr Qx nx k n pc lv st (hp nx s) := by
  intro p l e s9 m args below meth c Fin cz hr hx hzz H locs ls hP hS hL
  exact kk hP.2.1 p l e s9 m args below meth c Fin cz hr hx hzz H locs ls hP hS hL
theorem tmod_v {x y : Int} (hx : R x) (hy : 0 < y ∧ R y) : Int32.ofInt x - Int32.ofInt x / Int32.ofInt y * Int32.ofInt y = Int32.ofInt (x.tmod y) := by
  have e : Int32.ofInt x / Int32.ofInt y = Int32.ofInt (x.tdiv y) := by
    apply Int32.toInt.inj
    rw [Int32.toInt_div, t32 hx, t32 hy.2, Int32.toInt_ofInt]
  rw [e, ← Int32.ofInt_mul, ← Int32.ofInt_sub, Int.tmod_def, Int.mul_comm]
theorem x_tmod {x y : Int} (hd : decode (mB M) pc = .ok (.irem, 1)) (hx : R x) (hy : 0 < y ∧ R y) (kk : ww C M d mc ms ne Qr Qx nx k n (pc + 1) lv (vi (x.tmod y) :: st) h) : ww C M d mc ms ne Qr Qx nx k n pc lv (vi y :: vi x :: st) h := w_irem hd (nz_v hy) (by rw [tmod_v hx hy]; exact kk)
theorem x_mabs {x : Int} {idx : Nat} (hx : -2147483648 < x ∧ R x) (hd : decode (mB M) pc = .ok (.invokestatic idx, 3)) (hlk : Cond.methodLink (mY M).cls idx Lib.Math.abs.name ∈ lw_all ∧ Cond.static Lib.Math.abs.name ∈ lw_all ∧ Cond.initialized "java/lang/Math" ∈ lw_all ∧ Cond.code Lib.Math.abs.name Lib.Math.abs.code 1 (some .int) ∈ lw_all) (hdd : 1 ≤ d) (hw : (st.map fun v => v.category).sum ≤ 8) (hk : k ≤ mc) (hn : n ≤ ms) (kk : ww C M d mc ms ne Qr Qx nx k n (pc + 3) lv (vi (x.natAbs : Int) :: st) h) : ww C M d mc ms ne Qr Qx nx k n pc lv (vi x :: st) h := by
  intro p l ee s m args below meth c Fin cz hr hx9 hzz H locs ls hP hS hL
  refine va_mabs (x := Int32.ofInt x) (rest := st.map (up C)) cz.1.1 cz.1.2.1 (cz.1.2.2.2.1.trans hL.1.symm) cz.1.2.2.2.2 (cz.2.1 _ hlk.1) (cz.2.1 _ hlk.2.1) (cz.2.1 _ hlk.2.2.1) (cz.2.1 _ hlk.2.2.2) hdd (by rw [up_sum]; show _ ≤ 70 * d; omega) hk hn hd ?_
  have e : (if 0 ≤ Int32.ofInt x then Int32.ofInt x else 0 - Int32.ofInt x) = Int32.ofInt (x.natAbs : Int) := by
    split
    · rename_i q
      congr 1
      have := (zGe hx.2).mp q
      omega
    · rename_i q
      have := Int.not_le.mp fun e => q ((zGe hx.2).mpr e)
      rw [show (0 : Int32) = Int32.ofInt 0 by decide, ← Int32.ofInt_sub]
      congr 1
      omega
  rw [e]
  exact kk p l ee s m args below meth c Fin cz hr hx9 hzz H locs ls hP hS hL
end CELL
theorem gcJ0_38 {M : Mk} (h : (mY M).cls = RJ0) : Cond.fieldLink (mY M).cls 38 "java/lang/String" "COMPACT_STRINGS" "Z" ∈ lw_all := by rw [h]; exact (lw_all_mem (List.mem_append_right _ (List.mem_of_getElem? (i := 441) (by decide +kernel))) (by decide +kernel))
theorem ljJ1_9 {M : Mk} (h : (mY M).cls = RJ1) : LKT M MJ_sck 9 2 := ⟨lk0J_sck, by rw [h]; exact (lw_all_mem (List.mem_append_right _ (List.mem_of_getElem? (i := 710) (by decide +kernel))) (by decide +kernel)), (lw_all_mem (List.mem_append_right _ (List.mem_of_getElem? (i := 628) (by decide +kernel))) (by decide +kernel))⟩
theorem ljJ0_492 {M : Mk} (h : (mY M).cls = RJ0) : LKV M MJ_isLatin1 492 0 := ⟨lk0J_isLatin1, by rw [h]; exact (lw_all_mem (List.mem_append_right _ (List.mem_of_getElem? (i := 703) (by decide +kernel))) (by decide +kernel)), (lw_all_mem (List.mem_append_right _ (List.mem_of_getElem? (i := 704) (by decide +kernel))) (by decide +kernel)), (lw_all_mem (List.mem_append_right _ (List.mem_of_getElem? (i := 705) (by decide +kernel))) (by decide +kernel))⟩
theorem ljJ0_495 {M : Mk} (h : (mY M).cls = RJ0) : LKT M MJ_l1 495 2 := ⟨lk0J_l1, by rw [h]; exact (lw_all_mem (List.mem_append_right _ (List.mem_of_getElem? (i := 707) (by decide +kernel))) (by decide +kernel)), (lw_all_mem (List.mem_append_right _ (List.mem_of_getElem? (i := 708) (by decide +kernel))) (by decide +kernel))⟩
theorem ckL_7 {M : Mk} (h : (mY M).cls = RL) : Cond.constant (mY M).cls 7 (Int32.ofInt 100000) ∈ lw_all := by rw [h]; exact (lw_all_mem (List.mem_append_right _ (List.mem_of_getElem? (i := 419) (by decide +kernel))) (by decide +kernel))
theorem lmL_8 {M : Mk} (h : (mY M).cls = RL) : Cond.methodLink (mY M).cls 8 Lib.Math.abs.name ∈ lw_all ∧ Cond.static Lib.Math.abs.name ∈ lw_all ∧ Cond.initialized "java/lang/Math" ∈ lw_all ∧ Cond.code Lib.Math.abs.name Lib.Math.abs.code 1 (some .int) ∈ lw_all := ⟨by rw [h]; exact (lw_all_mem (List.mem_append_right _ (List.mem_of_getElem? (i := 420) (by decide +kernel))) (by decide +kernel)), (lw_all_mem (List.mem_append_right _ (List.mem_of_getElem? (i := 421) (by decide +kernel))) (by decide +kernel)), (lw_all_mem (List.mem_append_right _ (List.mem_of_getElem? (i := 7) (by decide +kernel))) (by decide +kernel)), (lw_all_mem (List.mem_append_right _ (List.mem_of_getElem? (i := 422) (by decide +kernel))) (by decide +kernel))⟩
theorem nk_boolean : Cond.arrayClass .boolean ∈ lw_all := (lw_all_mem (List.mem_append_right _ (List.mem_of_getElem? (i := 579) (by decide +kernel))) (by decide +kernel))
set_option maxRecDepth 100000 in
theorem cD_coder {C : Cx} {nx : Nat} {s : Sg} {a m : Nat} (hsa : shC C a = some (.inl 12)) (hsb : shC C (a + 1) = some (.inr (.byte, m))) (ha : KN ≤ a ∧ a + 1 < nx) (hm : m ≤ 94) (h1 : gi s a 1 = 0) : mm C MJ_coder 0 0 0 nx nx [.ref a] (hp nx s) (QI nx s 0) XF := by
  refine mm_of rfl rfl (Nat.le_of_ble_eq_true rfl) ?_
  show ww C MJ_coder 0 0 0 nx _ XF nx 0 0 0 [(0, .ref a)] [] (hp nx s)
  refine x_getsC dJ0_coder_7d493_0 (gcJ0_38 rfl) ?_
  refine w_ifeq dJ0_coder_7d493_3 rfl (fun q => absurd q (by decide)) (fun _ => ?_)
  refine w_aload_n 0 dJ0_coder_7d493_6 rfl rfl ?_
  refine xe_getI 12 1 (x := 0) dJ0_coder_7d493_7 (fjJ0_15_12 rfl) rfl hsa (by omega) h1 ?_
  refine w_goto dJ0_coder_7d493_10 rfl ?_
  exact w_ireturn (ty := .byte) rfl rfl dJ0_coder_7d493_14 rfl (Nat.le_of_ble_eq_true rfl) (Nat.le_of_ble_eq_true rfl) ⟨rfl, rfl⟩
set_option maxRecDepth 100000 in
theorem cD_lat {C : Cx} {nx : Nat} {s : Sg} {a m : Nat} (hsa : shC C a = some (.inl 12)) (hsb : shC C (a + 1) = some (.inr (.byte, m))) (ha : KN ≤ a ∧ a + 1 < nx) (hm : m ≤ 94) (h1 : gi s a 1 = 0) : mm C MJ_isLatin1 0 0 0 nx nx [.ref a] (hp nx s) (QI nx s 1) XF := by
  refine mm_of rfl rfl (Nat.le_of_ble_eq_true rfl) ?_
  show ww C MJ_isLatin1 0 0 0 nx _ XF nx 0 0 0 [(0, .ref a)] [] (hp nx s)
  refine x_getsC dJ0_isLatin1_aae02_0 (gcJ0_38 rfl) ?_
  refine w_ifeq dJ0_isLatin1_aae02_3 rfl (fun q => absurd q (by decide)) (fun _ => ?_)
  refine w_aload_n 0 dJ0_isLatin1_aae02_6 rfl rfl ?_
  refine xe_getI 12 1 (x := 0) dJ0_isLatin1_aae02_7 (fjJ0_15_12 rfl) rfl hsa (by omega) h1 ?_
  refine w_ifne dJ0_isLatin1_aae02_10 rfl (fun q => absurd ((zE (by unfold R; omega)).mpr (by omega)) q) (fun _ => ?_)
  refine x_iconst dJ0_isLatin1_aae02_13 ?_
  refine w_goto dJ0_isLatin1_aae02_14 rfl ?_
  exact w_ireturn (ty := .boolean) rfl rfl dJ0_isLatin1_aae02_18 rfl (Nat.le_of_ble_eq_true rfl) (Nat.le_of_ble_eq_true rfl) ⟨rfl, rfl⟩
set_option maxRecDepth 100000 in
theorem cD_len {C : Cx} {nx : Nat} {s : Sg} {a m : Nat} (hsa : shC C a = some (.inl 12)) (hsb : shC C (a + 1) = some (.inr (.byte, m))) (ha : KN ≤ a ∧ a + 1 < nx) (hm : m ≤ 94) (h1 : gi s a 1 = 0) (h0 : gd s a 0 = a + 1) : mm C MJ_length 1 0 0 nx nx [.ref a] (hp nx s) (QI nx s (m : Int)) XF := by
  have hk80 : KN = 80 := rfl
  refine mm_of rfl rfl (Nat.le_of_ble_eq_true rfl) ?_
  show ww C MJ_length 1 0 0 nx _ XF nx 0 0 0 [(0, .ref a)] [] (hp nx s)
  refine w_aload_n 0 dJ0_length_8abf5_0 rfl rfl ?_
  refine xe_getR 12 0 (b := (a + 1)) dJ0_length_8abf5_1 (fjJ0_9_12 rfl) rfl hsa (by omega) (by omega) (by omega) h0 ?_
  refine xe_blen dJ0_length_8abf5_4 hsb (by omega) ?_
  refine w_aload_n 0 dJ0_length_8abf5_5 rfl rfl ?_
  refine w_callV MJ_coder [] (st := [vi (m : Int)]) dJ0_length_8abf5_6 (ljJ0_335 rfl) (by omega) hsa rfl (Nat.le_of_ble_eq_true rfl) (by omega) (by omega) (Nat.le_of_ble_eq_true rfl) (cD_coder hsa hsb ha hm h1) XOK.no (fun v h' hq => ?_)
  obtain ⟨rfl, rfl⟩ := hq
  refine x_ishr dJ0_length_8abf5_9 ?_
  rw [ishr0 (by unfold R; omega)]
  exact w_ireturn (ty := .int) rfl rfl dJ0_length_8abf5_10 rfl (Nat.le_of_ble_eq_true rfl) (Nat.le_of_ble_eq_true rfl) ⟨rfl, rfl⟩
set_option maxRecDepth 100000 in
theorem cD_l1 {C : Cx} {nx : Nat} {s : Sg} {a m i : Nat} {x : Int} (hsa : shC C a = some (.inl 12)) (hsb : shC C (a + 1) = some (.inr (.byte, m))) (ha : KN ≤ a ∧ a + 1 < nx) (hm : m ≤ 94) (hi : i < m) (hx : gi s (a + 1) i = x) (hc : 0 ≤ x ∧ x < 128) : mm C MJ_l1 2 0 0 nx nx [.ref (a + 1), vi (i : Int)] (hp nx s) (QI nx s x) XF := by
  have hk80 : KN = 80 := rfl
  refine mm_of rfl rfl (Nat.le_of_ble_eq_true rfl) ?_
  show ww C MJ_l1 2 0 0 nx _ XF nx 0 0 0 [(0, .ref (a + 1)), (1, vi (i : Int))] [] (hp nx s)
  refine w_iload_n 1 dJ1_charAt_3b067_0 rfl rfl ?_
  refine w_aload_n 0 dJ1_charAt_3b067_1 rfl rfl ?_
  refine xe_blen dJ1_charAt_3b067_2 hsb (by omega) ?_
  refine w_callT MJ_sck [vi (i : Int), vi (m : Int)] (st := []) dJ1_charAt_3b067_3 (ljJ1_9 rfl) (Nat.le_of_ble_eq_true rfl) (by omega) (by omega) (Nat.le_of_ble_eq_true rfl) (cJ_sck ⟨by omega, by omega⟩ ⟨by unfold R; omega, by unfold R; omega⟩) XOK.no (fun v h' hq => ?_)
  obtain ⟨rfl, rfl⟩ := hq
  refine w_aload_n 0 dJ1_charAt_3b067_6 rfl rfl ?_
  refine w_iload_n 1 dJ1_charAt_3b067_7 rfl rfl ?_
  refine x_baldC (m1 := m) ⟨by omega, by omega⟩ (by omega) dJ1_charAt_3b067_8 hsb (by omega) ?_
  rw [Int.toNat_natCast, hx]
  refine x_sipush dJ1_charAt_3b067_9 (by decide) ?_
  refine x_iand dJ1_charAt_3b067_12 ?_
  rw [show (iandI x 255) = x from (chr_v hc).1]
  refine w_i2c dJ1_charAt_3b067_13 (chr_v hc).2.1 ?_
  exact w_ireturn (ty := .char) rfl (chr_v hc).2.2 dJ1_charAt_3b067_14 rfl (Nat.le_of_ble_eq_true rfl) (Nat.le_of_ble_eq_true rfl) ⟨rfl, rfl⟩
set_option maxRecDepth 100000 in
theorem cD_chr {C : Cx} {nx : Nat} {s : Sg} {a m i : Nat} {x : Int} (hsa : shC C a = some (.inl 12)) (hsb : shC C (a + 1) = some (.inr (.byte, m))) (ha : KN ≤ a ∧ a + 1 < nx) (hm : m ≤ 94) (h1 : gi s a 1 = 0) (h0 : gd s a 0 = a + 1) (hi : i < m) (hx : gi s (a + 1) i = x) (hc : 0 ≤ x ∧ x < 128) : mm C MJ_charAt 3 0 0 nx nx [.ref a, vi (i : Int)] (hp nx s) (QI nx s x) XF := by
  have hk80 : KN = 80 := rfl
  refine mm_of rfl rfl (Nat.le_of_ble_eq_true rfl) ?_
  show ww C MJ_charAt 3 0 0 nx _ XF nx 0 0 0 [(0, .ref a), (1, vi (i : Int))] [] (hp nx s)
  refine w_aload_n 0 dJ0_charAt_5068e_0 rfl rfl ?_
  refine w_callV MJ_isLatin1 [] (st := []) dJ0_charAt_5068e_1 (ljJ0_492 rfl) (by omega) hsa rfl (Nat.le_of_ble_eq_true rfl) (by omega) (by omega) (Nat.le_of_ble_eq_true rfl) (cD_lat hsa hsb ha hm h1) XOK.no (fun v h' hq => ?_)
  obtain ⟨rfl, rfl⟩ := hq
  refine w_ifeq dJ0_charAt_5068e_4 rfl (fun q => absurd q (fun e9 => absurd ((zE (by unfold R; omega)).mp e9) (by omega))) (fun _ => ?_)
  refine w_aload_n 0 dJ0_charAt_5068e_7 rfl rfl ?_
  refine xe_getR 12 0 (b := (a + 1)) dJ0_charAt_5068e_8 (fjJ0_9_12 rfl) rfl hsa (by omega) (by omega) (by omega) h0 ?_
  refine w_iload_n 1 dJ0_charAt_5068e_11 rfl rfl ?_
  refine w_callT MJ_l1 [.ref (a + 1), vi (i : Int)] (st := []) dJ0_charAt_5068e_12 (ljJ0_495 rfl) (Nat.le_of_ble_eq_true rfl) (by omega) (by omega) (Nat.le_of_ble_eq_true rfl) (cD_l1 hsa hsb ha hm hi hx hc) XOK.no (fun v h' hq => ?_)
  obtain ⟨rfl, rfl⟩ := hq
  exact w_ireturn (ty := .char) rfl (chr_v hc).2.2 dJ0_charAt_5068e_15 rfl (Nat.le_of_ble_eq_true rfl) (Nat.le_of_ble_eq_true rfl) ⟨rfl, rfl⟩
theorem isA_scr {C : Cx} {nx : Nat} : isA C nx 1200 (xL C) := Or.inr (by unfold roL; simp)
theorem c_La_cell {C : Cx} {nx : Nat} (hnx : 80 ≤ nx) (x1 : Int) (s : Sg) : ∀ o, La_cell x1 s = some o → mm C M_L_cell 1 0 0 nx nx [.ref 1200, vi x1] (hp nx s) (QI nx s o) (XF) := by
  intro o hs
  unfold La_cell at hs
  refine mm_of rfl rfl (Nat.le_of_ble_eq_true rfl) ?_
  show ww C M_L_cell 1 0 0 nx (QI nx s o) (XF) nx 0 0 0 [(0, .ref 1200), (1, vi x1)] [] (hp nx s)
  refine grd_e hs (fun g1 hs => ?_)
  refine grd_e hs (fun g2 hs => ?_)
  refine grd_e hs (fun g3 hs => ?_)
  cases hs
  refine ww_p2 fun hV => ?_
  have hRL : R (gi s 1201 0) := by unfold R; omega
  have hlen : (xL C : Int) = gi s 1201 0 := by
    show (((xV C 1201 0).toInt.toNat : Nat) : Int) = _
    rw [← hV 1201 (by omega) 0, t32 hRL]
    omega
  have hR1 : R x1 := by unfold R; omega
  refine w_aload_n 0 dL_cell_0 rfl rfl ?_
  refine x_alen dL_cell_1 isA_scr ?_
  rw [hlen]
  unfold clv
  by_cases h0 : gi s 1201 0 = 0
  · rw [if_pos h0]
    refine w_ifne dL_cell_2 rfl (fun q => absurd ((zE hRL).mpr h0) q) (fun _ => ?_)
    refine x_iconst dL_cell_5 ?_
    refine w_goto dL_cell_6 rfl ?_
    exact w_ireturn (ty := .int) rfl rfl dL_cell_21 rfl (Nat.le_refl _) (Nat.le_refl _) ⟨rfl, rfl⟩
  · rw [if_neg h0]
    refine w_ifne dL_cell_2 rfl (fun _ => ?_) (fun q => absurd ((zE hRL).mp q) h0)
    have hp0 : 0 < gi s 1201 0 := by omega
    have hm0 := Int.emod_nonneg x1 h0
    have hm1 := Int.emod_lt_of_pos x1 hp0
    refine w_aload_n 0 dL_cell_9 rfl rfl ?_
    refine w_iload_n 1 dL_cell_10 rfl rfl ?_
    refine w_aload_n 0 dL_cell_11 rfl rfl ?_
    refine x_alen dL_cell_12 isA_scr ?_
    rw [hlen]
    refine x_irem dL_cell_13 ⟨⟨g1.1, hR1⟩, ⟨hp0, hRL⟩⟩ ?_
    refine x_iald (m1 := xL C) ⟨hm0, by rw [hlen]; exact hm1⟩ (by omega) dL_cell_14 isA_scr ?_
    refine xe_ldc1 100000 dL_cell_15 (ckL_7 rfl) ?_
    refine x_tmod dL_cell_17 (g3 _) ⟨by decide, by unfold R; omega⟩ ?_
    have hA := Int.lt_tmod_of_pos (gi s 1200 (x1 % gi s 1201 0).toNat) (show (0 : Int) < 100000 by decide)
    have hB := Int.tmod_lt_of_pos (gi s 1200 (x1 % gi s 1201 0).toNat) (show (0 : Int) < 100000 by decide)
    refine x_mabs ⟨by omega, by unfold R; omega⟩ dL_cell_18 (lmL_8 rfl) (Nat.le_refl _) (Nat.le_of_ble_eq_true rfl) (Nat.le_refl _) (Nat.le_refl _) ?_
    exact w_ireturn (ty := .int) rfl rfl dL_cell_21 rfl (Nat.le_refl _) (Nat.le_refl _) ⟨rfl, rfl⟩

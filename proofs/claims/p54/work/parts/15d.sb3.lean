/-! ===== appending ===== -/
def wl_ (w : Nat) : List Int := (List.range (wlen w)).map (wch w)
theorem wlX_len (w : Nat) : (wl_ w).length = wlen w := by unfold wl_; rw [List.length_map, List.length_range]
theorem wlX_getD (w j : Nat) (h : j < wlen w) : (wl_ w).getD j 0 = wch w j := by
  unfold wl_
  rw [List.getD_eq_getElem?_getD, List.getElem?_map, List.getElem?_range h]
  rfl
theorem wch_rng : ∀ w, w < 27 → ∀ j, j < 11 → -128 ≤ wch w j ∧ wch w j < 128 := by decide +kernel
theorem SBk_app {s s' : Sg} {c : Nat} {L W : List Int} (hB : SBk s c L) (hfit : L.length + W.length ≤ cpo c) (hW : ∀ j, j < W.length → -128 ≤ W.getD j 0 ∧ W.getD j 0 < 128) (g0 : gd s' 81 0 = gd s 81 0) (g1 : gi s' 81 1 = gi s 81 1) (g3 : gi s' 81 3 = ((L.length + W.length : Nat) : Int)) (g4 : ∀ j, j < cpo c → gi s' (82 + c) j = if L.length ≤ j ∧ j < L.length + W.length then W.getD (j - L.length) 0 else gi s (82 + c) j) : SBk s' c (L ++ W) := by
  obtain ⟨b1, b2, b3, b4, b5, b6⟩ := hB
  refine ⟨g0.trans b1, g1.trans b2, by rw [g3, List.length_append], fun j hj => ?_, by rw [List.length_append]; exact hfit, fun j hj => ?_⟩
  · rw [List.length_append] at hj
    rw [g4 j (by omega), show (L ++ W).getD j 0 = ((L ++ W)[j]?).getD 0 from List.getD_eq_getElem?_getD]
    by_cases h : L.length ≤ j
    · rw [if_pos ⟨h, hj⟩, List.getElem?_append_right h, List.getD_eq_getElem?_getD]
    · rw [if_neg (by omega), List.getElem?_append_left (by omega), ← List.getD_eq_getElem?_getD]
      exact b4 j (by omega)
  · rw [g4 j hj]
    split
    · exact hW _ (by omega)
    · exact b6 j hj
def QSB (C : Cx) (s : Sg) (n : Nat) (L' : List Int) (r : Option Value) : Option Value → Hp → Prop := fun v h' => v = r ∧ ∃ s', h' = hp (83 + cof n) s' ∧ SBk s' (cof n) L' ∧ FrS (cof n) s s'
theorem ljJ5_32 {M : Mk} (h : (mY M).cls = RJ5) : LKV M MJ_length 32 0 := ⟨lk0J_length, by rw [h]; exact (lw_all_mem (List.mem_append_right _ (List.mem_of_getElem? (i := 433) (by decide +kernel))) (by decide +kernel)), (lw_all_mem (List.mem_append_right _ (List.mem_of_getElem? (i := 434) (by decide +kernel))) (by decide +kernel)), (lw_all_mem (List.mem_append_right _ (List.mem_of_getElem? (i := 435) (by decide +kernel))) (by decide +kernel))⟩
theorem ljJ5_100 {M : Mk} (h : (mY M).cls = RJ5) : LKU M MJ_ens 100 1 yJ5_ensureCapacityInternal_d00df := ⟨lk0J_ens, ⟨by decide +kernel, by decide +kernel, by decide +kernel⟩, by rw [h]; exact (lw_all_mem (List.mem_append_right _ (List.mem_of_getElem? (i := 470) (by decide +kernel))) (by decide +kernel)), (lw_all_mem (List.mem_append_right _ (List.mem_of_getElem? (i := 1425) (by decide +kernel))) (by decide +kernel)), ⟨(lw_all_mem (List.mem_append_right _ (List.mem_of_getElem? (i := 472) (by decide +kernel))) (by decide +kernel)), _, _, _, cw_ens⟩, lw_all_sel (List.mem_of_getElem? (i := 0) rfl) (by decide +kernel), (lw_all_mem (List.mem_append_right _ (List.mem_of_getElem? (i := 472) (by decide +kernel))) (by decide +kernel))⟩
theorem ljJ5_208 {M : Mk} (h : (mY M).cls = RJ5) : LKU M MJ_put 208 2 yJ5_putStringAt_47b60 := ⟨lk0J_put, ⟨by decide +kernel, by decide +kernel, by decide +kernel⟩, by rw [h]; exact (lw_all_mem (List.mem_append_right _ (List.mem_of_getElem? (i := 534) (by decide +kernel))) (by decide +kernel)), (lw_all_mem (List.mem_append_right _ (List.mem_of_getElem? (i := 1427) (by decide +kernel))) (by decide +kernel)), ⟨(lw_all_mem (List.mem_append_right _ (List.mem_of_getElem? (i := 536) (by decide +kernel))) (by decide +kernel)), _, _, _, cw_put⟩, lw_all_sel (List.mem_of_getElem? (i := 2) rfl) (by decide +kernel), (lw_all_mem (List.mem_append_right _ (List.mem_of_getElem? (i := 536) (by decide +kernel))) (by decide +kernel))⟩
theorem ljJ4_29 {M : Mk} (h : (mY M).cls = RJ4) : LKQ M MJ_apS 29 1 := ⟨lk0J_apS, by decide +kernel, by rw [h]; exact (lw_all_mem (List.mem_append_right _ (List.mem_of_getElem? (i := 463) (by decide +kernel))) (by decide +kernel)), (lw_all_mem (List.mem_append_right _ (List.mem_of_getElem? (i := 455) (by decide +kernel))) (by decide +kernel)), by rw [h]; exact (lw_all_mem (List.mem_append_right _ (List.mem_of_getElem? (i := 464) (by decide +kernel))) (by decide +kernel)), (lw_all_mem (List.mem_append_right _ (List.mem_of_getElem? (i := 454) (by decide +kernel))) (by decide +kernel))⟩
theorem ljJ4_23 {M : Mk} (h : (mY M).cls = RJ4) : LKV M MJ_bS 23 1 := ⟨lk0J_bS, by rw [h]; exact (lw_all_mem (List.mem_append_right _ (List.mem_of_getElem? (i := 459) (by decide +kernel))) (by decide +kernel)), (lw_all_mem (List.mem_append_right _ (List.mem_of_getElem? (i := 460) (by decide +kernel))) (by decide +kernel)), (lw_all_mem (List.mem_append_right _ (List.mem_of_getElem? (i := 461) (by decide +kernel))) (by decide +kernel))⟩
theorem ljJ5_83 {M : Mk} (h : (mY M).cls = RJ5) : LKU M MJ_aL1 83 0 yJ5_isLatin1_aae02 := ⟨lk0J_aL1, ⟨by decide +kernel, by decide +kernel, by decide +kernel⟩, by rw [h]; exact (lw_all_mem (List.mem_append_right _ (List.mem_of_getElem? (i := 502) (by decide +kernel))) (by decide +kernel)), (lw_all_mem (List.mem_append_right _ (List.mem_of_getElem? (i := 504) (by decide +kernel))) (by decide +kernel)), ⟨(lw_all_mem (List.mem_append_right _ (List.mem_of_getElem? (i := 503) (by decide +kernel))) (by decide +kernel)), _, _, _, cw_aL1⟩, (lw_all_mem (List.mem_append_right _ (List.mem_of_getElem? (i := 505) (by decide +kernel))) (by decide +kernel)), (lw_all_mem (List.mem_append_right _ (List.mem_of_getElem? (i := 503) (by decide +kernel))) (by decide +kernel))⟩
theorem ljJ5_191 {M : Mk} (h : (mY M).cls = RJ5) : LKT M MJ_enc 191 1 := ⟨lk0J_enc, by rw [h]; exact (lw_all_mem (List.mem_append_right _ (List.mem_of_getElem? (i := 618) (by decide +kernel))) (by decide +kernel)), (lw_all_mem (List.mem_append_right _ (List.mem_of_getElem? (i := 619) (by decide +kernel))) (by decide +kernel))⟩
theorem ljJ4_50 {M : Mk} (h : (mY M).cls = RJ4) : LKQ M MJ_apC 50 1 := ⟨lk0J_apC, by decide +kernel, by rw [h]; exact (lw_all_mem (List.mem_append_right _ (List.mem_of_getElem? (i := 615) (by decide +kernel))) (by decide +kernel)), (lw_all_mem (List.mem_append_right _ (List.mem_of_getElem? (i := 1431) (by decide +kernel))) (by decide +kernel)), by rw [h]; exact (lw_all_mem (List.mem_append_right _ (List.mem_of_getElem? (i := 464) (by decide +kernel))) (by decide +kernel)), (lw_all_mem (List.mem_append_right _ (List.mem_of_getElem? (i := 616) (by decide +kernel))) (by decide +kernel))⟩
theorem gdJ6_83 {M : Mk} (h : (mY M).cls = RJ6) : Cond.fieldLink (mY M).cls 83 "java/lang/Integer" "DigitOnes" "[B" ∈ lw_all := by rw [h]; exact (lw_all_mem (List.mem_append_right _ (List.mem_of_getElem? (i := 594) (by decide +kernel))) (by decide +kernel))
theorem ljJ5_245 {M : Mk} (h : (mY M).cls = RJ5) : LKT M MJ_siz 245 1 := ⟨lk0J_siz, by rw [h]; exact (lw_all_mem (List.mem_append_right _ (List.mem_of_getElem? (i := 588) (by decide +kernel))) (by decide +kernel)), (lw_all_mem (List.mem_append_right _ (List.mem_of_getElem? (i := 589) (by decide +kernel))) (by decide +kernel))⟩
theorem ljJ5_248 {M : Mk} (h : (mY M).cls = RJ5) : LKT M MJ_gch 248 3 := ⟨lk0J_gch, by rw [h]; exact (lw_all_mem (List.mem_append_right _ (List.mem_of_getElem? (i := 591) (by decide +kernel))) (by decide +kernel)), (lw_all_mem (List.mem_append_right _ (List.mem_of_getElem? (i := 592) (by decide +kernel))) (by decide +kernel))⟩
theorem ljJ4_53 {M : Mk} (h : (mY M).cls = RJ4) : LKQ M MJ_apI 53 1 := ⟨lk0J_apI, by decide +kernel, by rw [h]; exact (lw_all_mem (List.mem_append_right _ (List.mem_of_getElem? (i := 585) (by decide +kernel))) (by decide +kernel)), (lw_all_mem (List.mem_append_right _ (List.mem_of_getElem? (i := 1430) (by decide +kernel))) (by decide +kernel)), by rw [h]; exact (lw_all_mem (List.mem_append_right _ (List.mem_of_getElem? (i := 464) (by decide +kernel))) (by decide +kernel)), (lw_all_mem (List.mem_append_right _ (List.mem_of_getElem? (i := 586) (by decide +kernel))) (by decide +kernel))⟩
theorem okJ5_3 {M : Mk} (h : (mY M).cls = RJ5) : Cond.methodLink (mY M).cls 3 Lib.objectInit ∈ lw_all ∧ Cond.instanceMethod Lib.objectInit ∈ lw_all ∧ Cond.code Lib.objectInit ⟨#[0xb1]⟩ 1 none ∈ lw_all := ⟨by rw [h]; exact (lw_all_mem (List.mem_append_right _ (List.mem_of_getElem? (i := 432) (by decide +kernel))) (by decide +kernel)), (lw_all_mem (List.mem_append_right _ (List.mem_of_getElem? (i := 35) (by decide +kernel))) (by decide +kernel)), (lw_all_mem (List.mem_append_right _ (List.mem_of_getElem? (i := 36) (by decide +kernel))) (by decide +kernel))⟩
theorem ckJ5_38 {M : Mk} (h : (mY M).cls = RJ5) : Cond.constant (mY M).cls 38 (Int32.ofInt 2147483631) ∈ lw_all := by rw [h]; exact (lw_all_mem (List.mem_append_right _ (List.mem_of_getElem? (i := 443) (by decide +kernel))) (by decide +kernel))
theorem ljJ5_43 {M : Mk} (h : (mY M).cls = RJ5) : LKU M MJ_bA 43 1 yJ5_append_cf1ce := ⟨lk0J_bA, ⟨by decide +kernel, by decide +kernel, by decide +kernel⟩, by rw [h]; exact (lw_all_mem (List.mem_append_right _ (List.mem_of_getElem? (i := 453) (by decide +kernel))) (by decide +kernel)), (lw_all_mem (List.mem_append_right _ (List.mem_of_getElem? (i := 455) (by decide +kernel))) (by decide +kernel)), ⟨(lw_all_mem (List.mem_append_right _ (List.mem_of_getElem? (i := 454) (by decide +kernel))) (by decide +kernel)), _, _, _, cw_apS⟩, (lw_all_mem (List.mem_append_right _ (List.mem_of_getElem? (i := 456) (by decide +kernel))) (by decide +kernel)), (lw_all_mem (List.mem_append_right _ (List.mem_of_getElem? (i := 457) (by decide +kernel))) (by decide +kernel))⟩
theorem ljJ4_7 {M : Mk} (h : (mY M).cls = RJ4) : LKI M MJ_aNew 7 1 := ⟨lk0J_aNew, by rw [h]; exact (lw_all_mem (List.mem_append_right _ (List.mem_of_getElem? (i := 429) (by decide +kernel))) (by decide +kernel)), (lw_all_mem (List.mem_append_right _ (List.mem_of_getElem? (i := 430) (by decide +kernel))) (by decide +kernel)), rfl, rfl⟩
set_option maxRecDepth 100000 in
theorem cJ_apS {C : Cx} {s : Sg} {c n w : Nat} {L : List Int} (hB : SBk s c L) (hc : c = cof L.length) (hw : isStr w) (hn : n = L.length + wlen w) (h3 : n ≤ 94) (hN : SHN C (cof n)) : mm C MJ_apS 4 1 94 (83 + c) (83 + cof n) [.ref 81, .ref (2000 + w)] (hp (83 + c) s) (QSB C s n (L ++ wl_ w) (some (.ref 81))) XF := by
  have hk80 : KN = 80 := rfl
  have hcm : c ≤ cof n := by rw [hc]; exact cof_mono (by omega)
  have hcp := cof_cpo h3
  have hp94 := cpo_le (cof n)
  have hd2 := cof_le n
  have hB0 := hB
  obtain ⟨a1, a2, a3, a4, a5, a6⟩ := hB0
  have h27 : w < 27 := by unfold isStr at hw; omega
  have h11 := wlen5 w h27
  refine mm_of rfl rfl (Nat.le_of_ble_eq_true rfl) ?_
  show ww C MJ_apS 4 1 94 (83 + cof n) _ XF (83 + c) 0 0 0 [(0, .ref 81), (1, .ref (2000 + w))] [] (hp (83 + c) s)
  refine w_aload_n 1 dJ5_append_cf1ce_0 rfl rfl ?_
  refine w_ifnonnull dJ5_append_cf1ce_1 rfl ?_
  refine w_aload_n 1 dJ5_append_cf1ce_9 rfl rfl ?_
  refine w_callVs MJ_length [] (w := w) (st := []) dJ5_append_cf1ce_10 (ljJ5_32 rfl) hw rfl (Nat.le_of_ble_eq_true rfl) (by omega) (by omega) (Nat.le_of_ble_eq_true rfl) (cJ_length hw) XOK.no (fun v h' hq => ?_)
  obtain ⟨rfl, rfl⟩ := hq
  refine w_istore_n (lv' := [(2, vi (slen w)), (0, .ref 81), (1, .ref (2000 + w))]) dJ5_append_cf1ce_13 rfl (Nat.le_of_ble_eq_true rfl) rfl ?_
  refine w_aload_n 1 dJ5_append_cf1ce_14 rfl rfl ?_
  refine w_aload_n 1 dJ5_append_cf1ce_15 rfl rfl ?_
  refine xe_getI 13 3 (x := (L.length : Int)) dJ5_append_cf1ce_16 (fjJ5_79_13 rfl) rfl hN.1 (by omega) a3 ?_
  refine w_iload_n 0 dJ5_append_cf1ce_19 rfl rfl ?_
  refine x_iadd dJ5_append_cf1ce_20 ?_
  rw [show ((L.length : Int) + (slen w)) = (n : Int) from by rw [hn]; show (L.length : Int) + (wlen w : Int) = _; omega]
  refine w_callU MJ_ens yJ5_ensureCapacityInternal_d00df [vi (n : Int)] (st := []) dJ5_append_cf1ce_21 (ljJ5_100 rfl) (by omega) hN.1 (Nat.le_of_ble_eq_true rfl) (by omega) (by omega) (Nat.le_of_ble_eq_true rfl) (cJ_ens hB hc (by omega) (by omega) h3 hN) (fun v h' hq => ?_)
  obtain ⟨rfl, s1, rfl, hB1, hF1⟩ := hq
  have hB1c := hB1
  obtain ⟨b1, b2, b3, b4, b5, b6⟩ := hB1c
  refine w_aload_n 1 dJ5_append_cf1ce_24 rfl rfl ?_
  refine w_aload_n 1 dJ5_append_cf1ce_25 rfl rfl ?_
  refine xe_getI 13 3 (x := (L.length : Int)) dJ5_append_cf1ce_26 (fjJ5_79_13 rfl) rfl hN.1 (by omega) b3 ?_
  refine w_aload_n 2 dJ5_append_cf1ce_29 rfl rfl ?_
  refine w_callU MJ_put yJ5_putStringAt_47b60 [vi (L.length : Int), .ref (2000 + w)] (st := []) dJ5_append_cf1ce_30 (ljJ5_208 rfl) (by omega) hN.1 (Nat.le_of_ble_eq_true rfl) (by omega) (by omega) (Nat.le_of_ble_eq_true rfl) (cJ_put hw hN.1 (by omega) b2 b1 (by omega) (hN.2 _ (Nat.le_refl _)) (by omega) (by omega) (by omega)) (fun v h' hq => ?_)
  obtain ⟨rfl, rfl⟩ := hq
  refine w_aload_n 1 dJ5_append_cf1ce_33 rfl rfl ?_
  refine w_dup dJ5_append_cf1ce_34 rfl ?_
  refine xe_getI 13 3 (x := (L.length : Int)) dJ5_append_cf1ce_35 (fjJ5_79_13 rfl) rfl hN.1 (by omega) (by rw [gi_wr, if_neg (by omega)]; exact b3) ?_
  refine w_iload_n 0 dJ5_append_cf1ce_38 rfl rfl ?_
  refine x_iadd dJ5_append_cf1ce_39 ?_
  rw [show ((L.length : Int) + (slen w)) = (n : Int) from by rw [hn]; show (L.length : Int) + (wlen w : Int) = _; omega]
  refine xe_putI 13 3 dJ5_append_cf1ce_40 (pofjJ5_79_13 rfl) rfl hN.1 (by omega) ?_
  refine w_aload_n 1 dJ5_append_cf1ce_43 rfl rfl ?_
  refine w_areturn rfl rfl dJ5_append_cf1ce_44 rfl (by omega) (by omega) ⟨rfl, _, rfl, SBk_app hB1 ?_ ?_ ?_ ?_ ?_ ?_, ?_⟩
  · rw [wlX_len]; omega
  · intro j hj
    rw [wlX_len] at hj
    rw [wlX_getD w j hj]
    exact wch_rng w h27 j (by omega)
  · rfl
  · rw [gi_si, if_neg (by omega), gi_wr, if_neg (by omega)]
  · rw [wlX_len, gi_si, if_pos ⟨rfl, rfl⟩, hn]
  · intro j hj
    rw [wlX_len]
    rw [gi_si, if_neg (by omega), gi_wr]
    by_cases hj2 : L.length ≤ j ∧ j < L.length + wlen w
    · rw [if_pos ⟨rfl, hj2⟩, if_pos hj2, wlX_getD w _ (by omega)]
    · rw [if_neg (fun z => hj2 z.2), if_neg hj2]
  · refine hF1.tr (Nat.le_refl _) (fun a ha => ⟨funext fun j => ?_, rfl, rfl⟩)
    rw [gi_si, if_neg (by omega), gi_wr, if_neg (by omega)]
set_option maxRecDepth 100000 in
theorem cJ_bS {C : Cx} {s : Sg} {c n w : Nat} {L : List Int} (hB : SBk s c L) (hc : c = cof L.length) (hw : isStr w) (hn : n = L.length + wlen w) (h3 : n ≤ 94) (hN : SHN C (cof n)) : mm C MJ_bS 5 1 94 (83 + c) (83 + cof n) [.ref 81, .ref (2000 + w)] (hp (83 + c) s) (QSB C s n (L ++ wl_ w) (some (.ref 81))) XF := by
  have hk80 : KN = 80 := rfl
  refine mm_of rfl rfl (Nat.le_of_ble_eq_true rfl) ?_
  show ww C MJ_bS 5 1 94 (83 + cof n) _ XF (83 + c) 0 0 0 [(0, .ref 81), (1, .ref (2000 + w))] [] (hp (83 + c) s)
  refine w_aload_n 0 dJ4_append_15ec4_0 rfl rfl ?_
  refine w_aload_n 1 dJ4_append_15ec4_1 rfl rfl ?_
  refine w_callQ MJ_apS [.ref (2000 + w)] (st := []) dJ4_append_15ec4_2 (ljJ4_29 rfl) (by omega) hN.1 (Nat.le_of_ble_eq_true rfl) (by omega) (by omega) (Nat.le_of_ble_eq_true rfl) (cJ_apS hB hc hw hn h3 hN) (fun v h' hq => ?_)
  obtain ⟨rfl, s1, rfl, hB1, hF1⟩ := hq
  refine w_pop dJ4_append_15ec4_5 rfl ?_
  refine w_aload_n 0 dJ4_append_15ec4_6 rfl rfl ?_
  exact w_areturn rfl rfl dJ4_append_15ec4_7 rfl (by omega) (by omega) ⟨rfl, s1, rfl, hB1, hF1⟩
set_option maxRecDepth 100000 in
theorem cJ_bA {C : Cx} {s : Sg} {c n w : Nat} {L : List Int} (hB : SBk s c L) (hc : c = cof L.length) (hw : isStr w) (hn : n = L.length + wlen w) (h3 : n ≤ 94) (hN : SHN C (cof n)) : mm C MJ_bA 6 1 94 (83 + c) (83 + cof n) [.ref 81, .ref (2000 + w)] (hp (83 + c) s) (QSB C s n (L ++ wl_ w) (some (.ref 81))) XF := by
  have hk80 : KN = 80 := rfl
  refine mm_of rfl rfl (Nat.le_of_ble_eq_true rfl) ?_
  show ww C MJ_bA 6 1 94 (83 + cof n) _ XF (83 + c) 0 0 0 [(0, .ref 81), (1, .ref (2000 + w))] [] (hp (83 + c) s)
  refine w_aload_n 0 dJ4_append_cf1ce_0 rfl rfl ?_
  refine w_aload_n 1 dJ4_append_cf1ce_1 rfl rfl ?_
  refine w_callV MJ_bS [.ref (2000 + w)] (st := []) dJ4_append_cf1ce_2 (ljJ4_23 rfl) (by omega) hN.1 rfl (Nat.le_of_ble_eq_true rfl) (by omega) (by omega) (Nat.le_of_ble_eq_true rfl) (cJ_bS hB hc hw hn h3 hN) XOK.no (fun v h' hq => ?_)
  obtain ⟨rfl, s1, rfl, hB1, hF1⟩ := hq
  exact w_areturn rfl rfl dJ4_append_cf1ce_5 rfl (by omega) (by omega) ⟨rfl, s1, rfl, hB1, hF1⟩
set_option maxRecDepth 100000 in
theorem cJ_enc {C : Cx} {nx : Nat} {s : Sg} {x : Int} (hx : 0 ≤ x ∧ x < 128) : mm C MJ_enc 0 0 0 nx nx [vi x] (hp nx s) (QI nx s 1) XF := by
  refine mm_of rfl rfl (Nat.le_of_ble_eq_true rfl) ?_
  show ww C MJ_enc 0 0 0 nx _ XF nx 0 0 0 [(0, vi x)] [] (hp nx s)
  refine w_iload_n 0 dJ1_canEncode_fc78d_0 rfl rfl ?_
  refine x_sipush dJ1_canEncode_fc78d_1 (by decide) ?_
  refine w_icmpgt dJ1_canEncode_fc78d_4 rfl (fun q => absurd q (fun e9 => absurd ((c32l (by unfold R; omega) (by unfold R; omega)).mp e9) (by omega))) (fun _ => ?_)
  refine x_iconst dJ1_canEncode_fc78d_7 ?_
  refine w_goto dJ1_canEncode_fc78d_8 rfl ?_
  exact w_ireturn (ty := .boolean) rfl rfl dJ1_canEncode_fc78d_12 rfl (Nat.le_of_ble_eq_true rfl) (Nat.le_of_ble_eq_true rfl) ⟨rfl, rfl⟩
set_option maxRecDepth 100000 in
theorem cJ_apC {C : Cx} {s : Sg} {c n : Nat} {L : List Int} (hB : SBk s c L) (hc : c = cof L.length) {x : Int} (hx : 0 ≤ x ∧ x < 128) (hn : n = L.length + 1) (h3 : n ≤ 94) (hN : SHN C (cof n)) : mm C MJ_apC 4 1 94 (83 + c) (83 + cof n) [.ref 81, vi x] (hp (83 + c) s) (QSB C s n (L ++ [x]) (some (.ref 81))) XF := by
  have hk80 : KN = 80 := rfl
  have hcm : c ≤ cof n := by rw [hc]; exact cof_mono (by omega)
  have hcp := cof_cpo h3
  have hp94 := cpo_le (cof n)
  have hd2 := cof_le n
  have hB0 := hB
  obtain ⟨a1, a2, a3, a4, a5, a6⟩ := hB0
  refine mm_of rfl rfl (Nat.le_of_ble_eq_true rfl) ?_
  show ww C MJ_apC 4 1 94 (83 + cof n) _ XF (83 + c) 0 0 0 [(0, .ref 81), (1, vi x)] [] (hp (83 + c) s)
  refine w_aload_n 0 dJ5_append_3fe6f_0 rfl rfl ?_
  refine w_aload_n 0 dJ5_append_3fe6f_1 rfl rfl ?_
  refine xe_getI 13 3 (x := (L.length : Int)) dJ5_append_3fe6f_2 (fjJ5_79_13 rfl) rfl hN.1 (by omega) a3 ?_
  refine x_iconst dJ5_append_3fe6f_5 ?_
  refine x_iadd dJ5_append_3fe6f_6 ?_
  rw [show ((L.length : Int) + 1) = (n : Int) from by rw [hn]; omega]
  refine w_callU MJ_ens yJ5_ensureCapacityInternal_d00df [vi (n : Int)] (st := []) dJ5_append_3fe6f_7 (ljJ5_100 rfl) (by omega) hN.1 (Nat.le_of_ble_eq_true rfl) (by omega) (by omega) (Nat.le_of_ble_eq_true rfl) (cJ_ens hB hc (by omega) (by omega) h3 hN) (fun v h' hq => ?_)
  obtain ⟨rfl, s1, rfl, hB1, hF1⟩ := hq
  have hB1c := hB1
  obtain ⟨b1, b2, b3, b4, b5, b6⟩ := hB1c
  refine w_aload_n 0 dJ5_append_3fe6f_10 rfl rfl ?_
  refine w_callU MJ_aL1 yJ5_isLatin1_aae02 [] (st := []) dJ5_append_3fe6f_11 (ljJ5_83 rfl) (by omega) hN.1 (Nat.le_of_ble_eq_true rfl) (by omega) (by omega) (Nat.le_of_ble_eq_true rfl) (cJ_aL1 hN.1 (by omega) b2) (fun v h' hq => ?_)
  obtain ⟨rfl, rfl⟩ := hq
  refine w_ifeq dJ5_append_3fe6f_14 rfl (fun q => absurd q (fun e9 => absurd ((zE (by unfold R; omega)).mp e9) (by omega))) (fun _ => ?_)
  refine w_iload_n 1 dJ5_append_3fe6f_17 rfl rfl ?_
  refine w_callT MJ_enc [vi x] (st := []) dJ5_append_3fe6f_18 (ljJ5_191 rfl) (Nat.le_of_ble_eq_true rfl) (by omega) (by omega) (Nat.le_of_ble_eq_true rfl) (cJ_enc hx) XOK.no (fun v h' hq => ?_)
  obtain ⟨rfl, rfl⟩ := hq
  refine w_ifeq dJ5_append_3fe6f_21 rfl (fun q => absurd q (fun e9 => absurd ((zE (by unfold R; omega)).mp e9) (by omega))) (fun _ => ?_)
  refine w_aload_n 0 dJ5_append_3fe6f_24 rfl rfl ?_
  refine xe_getR 13 0 (b := (82 + cof n)) dJ5_append_3fe6f_25 (fjJ5_15_13 rfl) rfl hN.1 (by omega) (by decide) (by omega) b1 ?_
  refine w_aload_n 0 dJ5_append_3fe6f_28 rfl rfl ?_
  refine w_dup dJ5_append_3fe6f_29 rfl ?_
  refine xe_getI 13 3 (x := (L.length : Int)) dJ5_append_3fe6f_30 (fjJ5_79_13 rfl) rfl hN.1 (by omega) b3 ?_
  refine w_dupx1 dJ5_append_3fe6f_33 rfl rfl ?_
  refine x_iconst dJ5_append_3fe6f_34 ?_
  refine x_iadd dJ5_append_3fe6f_35 ?_
  rw [show ((L.length : Int) + 1) = (n : Int) from by rw [hn]; omega]
  refine xe_putI 13 3 dJ5_append_3fe6f_36 (pofjJ5_79_13 rfl) rfl hN.1 (by omega) ?_
  refine w_iload_n 1 dJ5_append_3fe6f_39 rfl rfl ?_
  refine x_i2b dJ5_append_3fe6f_40 ?_
  rw [show (i2bI x) = x from i2b_id ⟨by omega, by omega⟩]
  refine x_bastC (m1 := cpo (cof n)) ⟨by omega, by omega⟩ (by omega) dJ5_append_3fe6f_41 (hN.2 _ (Nat.le_refl _)) (by omega) ?_
  rw [i2b_id (x := x) ⟨by omega, by omega⟩, Int.toNat_natCast]
  refine w_goto dJ5_append_3fe6f_42 rfl ?_
  refine w_aload_n 0 dJ5_append_3fe6f_75 rfl rfl ?_
  refine w_areturn rfl rfl dJ5_append_3fe6f_76 rfl (by omega) (by omega) ⟨rfl, _, rfl, SBk_app (W := [x]) hB1 ?_ ?_ ?_ ?_ ?_ ?_, ?_⟩
  · show L.length + 1 ≤ _; omega
  · intro j hj
    have hj0 : j = 0 := by have h9 : j < 1 := hj; omega
    subst hj0
    show -128 ≤ x ∧ x < 128
    omega
  · rfl
  · rw [gi_si, if_neg (by omega), gi_si, if_neg (by omega)]
  · rw [gi_si, if_neg (by omega), gi_si, if_pos ⟨rfl, rfl⟩, hn]
    rfl
  · intro j hj
    rw [gi_si, gi_si, show [x].length = 1 from rfl]
    by_cases hj2 : j = L.length
    · rw [if_pos ⟨rfl, hj2⟩, if_pos (by omega), hj2, Nat.sub_self]
      rfl
    · rw [if_neg (fun z => hj2 z.2), if_neg (by omega), if_neg (by omega)]
  · refine hF1.tr (Nat.le_refl _) (fun a ha => ⟨funext fun j => ?_, rfl, rfl⟩)
    rw [gi_si, if_neg (by omega), gi_si, if_neg (by omega)]
set_option maxRecDepth 100000 in
theorem cJ_bC {C : Cx} {s : Sg} {c n : Nat} {L : List Int} (hB : SBk s c L) (hc : c = cof L.length) {x : Int} (hx : 0 ≤ x ∧ x < 128) (hn : n = L.length + 1) (h3 : n ≤ 94) (hN : SHN C (cof n)) : mm C MJ_bC 5 1 94 (83 + c) (83 + cof n) [.ref 81, vi x] (hp (83 + c) s) (QSB C s n (L ++ [x]) (some (.ref 81))) XF := by
  have hk80 : KN = 80 := rfl
  refine mm_of rfl rfl (Nat.le_of_ble_eq_true rfl) ?_
  show ww C MJ_bC 5 1 94 (83 + cof n) _ XF (83 + c) 0 0 0 [(0, .ref 81), (1, vi x)] [] (hp (83 + c) s)
  refine w_aload_n 0 dJ4_append_cf468_0 rfl rfl ?_
  refine w_iload_n 1 dJ4_append_cf468_1 rfl rfl ?_
  refine w_callQ MJ_apC [vi x] (st := []) dJ4_append_cf468_2 (ljJ4_50 rfl) (by omega) hN.1 (Nat.le_of_ble_eq_true rfl) (by omega) (by omega) (Nat.le_of_ble_eq_true rfl) (cJ_apC hB hc hx hn h3 hN) (fun v h' hq => ?_)
  obtain ⟨rfl, s1, rfl, hB1, hF1⟩ := hq
  refine w_pop dJ4_append_cf468_5 rfl ?_
  refine w_aload_n 0 dJ4_append_cf468_6 rfl rfl ?_
  exact w_areturn rfl rfl dJ4_append_cf468_7 rfl (by omega) (by omega) ⟨rfl, s1, rfl, hB1, hF1⟩
set_option maxRecDepth 100000 in
theorem cJ_siz {C : Cx} {nx : Nat} {s : Sg} {x : Int} (hx : 0 ≤ x ∧ x < 10) : mm C MJ_siz 0 0 0 nx nx [vi x] (hp nx s) (QI nx s 1) XF := by
  refine mm_of rfl rfl (Nat.le_of_ble_eq_true rfl) ?_
  show ww C MJ_siz 0 0 0 nx _ XF nx 0 0 0 [(0, vi x)] [] (hp nx s)
  refine x_iconst dJ6_stringSize_0f7a4_0 ?_
  refine w_istore_n (lv' := [(1, vi 1), (0, vi x)]) dJ6_stringSize_0f7a4_1 rfl (Nat.le_of_ble_eq_true rfl) rfl ?_
  refine w_iload_n 1 dJ6_stringSize_0f7a4_2 rfl rfl ?_
  refine w_iflt dJ6_stringSize_0f7a4_3 rfl (fun q => absurd q (fun e9 => absurd ((zLt (by unfold R; omega)).mp e9) (by omega))) (fun _ => ?_)
  refine x_iconst dJ6_stringSize_0f7a4_6 ?_
  refine w_istore_n (lv' := [(1, vi 0), (0, vi x)]) dJ6_stringSize_0f7a4_7 rfl (Nat.le_of_ble_eq_true rfl) rfl ?_
  refine w_iload_n 1 dJ6_stringSize_0f7a4_8 rfl rfl ?_
  refine xe_ineg dJ6_stringSize_0f7a4_9 ?_
  refine w_istore_n (lv' := [(0, vi (-x)), (1, vi 0)]) dJ6_stringSize_0f7a4_10 rfl (Nat.le_of_ble_eq_true rfl) rfl ?_
  refine x_bipush dJ6_stringSize_0f7a4_11 (by decide) ?_
  refine w_istore_n (lv' := [(2, vi (-10)), (0, vi (-x)), (1, vi 0)]) dJ6_stringSize_0f7a4_13 rfl (Nat.le_of_ble_eq_true rfl) rfl ?_
  refine x_iconst dJ6_stringSize_0f7a4_14 ?_
  refine w_istore_n (lv' := [(3, vi 1), (2, vi (-10)), (0, vi (-x)), (1, vi 0)]) dJ6_stringSize_0f7a4_15 rfl (Nat.le_of_ble_eq_true rfl) rfl ?_
  refine w_iload_n 0 dJ6_stringSize_0f7a4_16 rfl rfl ?_
  refine x_bipush dJ6_stringSize_0f7a4_17 (by decide) ?_
  refine w_icmpge dJ6_stringSize_0f7a4_19 rfl (fun q => absurd q (fun e9 => absurd ((c32m (by unfold R; omega) (by unfold R; omega)).mp e9) (by omega))) (fun _ => ?_)
  refine w_iload_n 2 dJ6_stringSize_0f7a4_22 rfl rfl ?_
  refine w_iload_n 1 dJ6_stringSize_0f7a4_23 rfl rfl ?_
  refine w_icmple dJ6_stringSize_0f7a4_24 rfl (fun q => absurd q (fun e9 => absurd ((c32m (by unfold R; omega) (by unfold R; omega)).mp e9) (by omega))) (fun _ => ?_)
  refine w_iload_n 0 dJ6_stringSize_0f7a4_27 rfl rfl ?_
  refine w_iload_n 3 dJ6_stringSize_0f7a4_28 rfl rfl ?_
  refine x_iadd dJ6_stringSize_0f7a4_29 ?_
  rw [show (1 + 0) = 1 from by omega]
  exact w_ireturn (ty := .int) rfl rfl dJ6_stringSize_0f7a4_30 rfl (Nat.le_of_ble_eq_true rfl) (Nat.le_of_ble_eq_true rfl) ⟨rfl, rfl⟩
set_option maxRecDepth 100000 in
theorem cJ_gch {C : Cx} {nx : Nat} {s : Sg} {b m n p : Nat} {x : Int} (hx : 0 ≤ x ∧ x < 10) (hb : b < nx) (hbs : shC C b = some (.inr (.byte, m))) (hn : n = p + 1 ∧ n ≤ m ∧ m ≤ 94) : mm C MJ_gch 0 0 0 nx nx [vi x, vi (n : Int), .ref b] (hp nx s) (QI nx (si s b p (48 + x)) (p : Int)) XF := by
  refine mm_of rfl rfl (Nat.le_of_ble_eq_true rfl) ?_
  show ww C MJ_gch 0 0 0 nx _ XF nx 0 0 0 [(0, vi x), (1, vi (n : Int)), (2, .ref b)] [] (hp nx s)
  refine w_iload_n 1 dJ6_getChars_ba4f3_0 rfl rfl ?_
  refine w_istore (lv' := [(5, vi (n : Int)), (0, vi x), (1, vi (n : Int)), (2, .ref b)]) dJ6_getChars_ba4f3_1 (Nat.le_of_ble_eq_true rfl) rfl ?_
  refine w_iload_n 1 dJ6_getChars_ba4f3_3 rfl rfl ?_
  refine w_ifge dJ6_getChars_ba4f3_4 rfl (fun _ => ?_) (fun q => absurd ((zGe (by unfold R; omega)).mpr (by omega)) q)
  refine x_iconst dJ6_getChars_ba4f3_11 ?_
  refine w_istore (lv' := [(6, vi 0), (5, vi (n : Int)), (0, vi x), (1, vi (n : Int)), (2, .ref b)]) dJ6_getChars_ba4f3_12 (Nat.le_of_ble_eq_true rfl) rfl ?_
  refine w_iload 0 dJ6_getChars_ba4f3_14 rfl ?_
  refine w_ifne dJ6_getChars_ba4f3_16 rfl (fun q => absurd ((zE (by unfold R; omega)).mpr (by omega)) q) (fun _ => ?_)
  refine w_iload_n 2 dJ6_getChars_ba4f3_19 rfl rfl ?_
  refine xe_ineg dJ6_getChars_ba4f3_20 ?_
  refine w_istore_n (lv' := [(0, vi (-x)), (6, vi 0), (5, vi (n : Int)), (1, vi (n : Int)), (2, .ref b)]) dJ6_getChars_ba4f3_21 rfl (Nat.le_of_ble_eq_true rfl) rfl ?_
  refine w_iload_n 0 dJ6_getChars_ba4f3_22 rfl rfl ?_
  refine x_bipush dJ6_getChars_ba4f3_23 (by decide) ?_
  refine w_icmpgt dJ6_getChars_ba4f3_25 rfl (fun _ => ?_) (fun q => absurd ((c32l (by unfold R; omega) (by unfold R; omega)).mpr (by omega)) q)
  refine w_aload_n 4 dJ6_getChars_ba4f3_72 rfl rfl ?_
  refine x_iinc (lv' := [(5, vi ((n : Int) + (-1))), (0, vi (-x)), (6, vi 0), (1, vi (n : Int)), (2, .ref b)]) 2 dJ6_getChars_ba4f3_73 rfl (Nat.le_of_ble_eq_true rfl) rfl ?_
  refine w_iload 0 dJ6_getChars_ba4f3_76 rfl ?_
  refine x_getsDO dJ6_getChars_ba4f3_78 (gdJ6_83 rfl) ?_
  refine w_iload_n 1 dJ6_getChars_ba4f3_81 rfl rfl ?_
  refine xe_ineg dJ6_getChars_ba4f3_82 ?_
  rw [show (-(-x)) = x from by omega]
  refine x_DOld ⟨by omega, by omega⟩ dJ6_getChars_ba4f3_83 ?_
  rw [show (48 + (x.toNat % 10 : Nat)) = (48 + x) from by omega]
  refine x_bastC (m1 := m) ⟨by omega, by omega⟩ (by omega) dJ6_getChars_ba4f3_84 hbs hb ?_
  rw [i2b_id (x := 48 + x) ⟨by omega, by omega⟩, show ((n : Int) + (-1)).toNat = p by omega]
  refine w_iload_n 1 dJ6_getChars_ba4f3_85 rfl rfl ?_
  refine x_bipush dJ6_getChars_ba4f3_86 (by decide) ?_
  refine w_icmpge dJ6_getChars_ba4f3_88 rfl (fun _ => ?_) (fun q => absurd ((c32m (by unfold R; omega) (by unfold R; omega)).mpr (by omega)) q)
  refine w_iload 2 dJ6_getChars_ba4f3_104 rfl ?_
  refine w_ifeq dJ6_getChars_ba4f3_106 rfl (fun _ => ?_) (fun q => absurd ((zE (by unfold R; omega)).mpr (by omega)) q)
  refine w_iload 0 dJ6_getChars_ba4f3_118 rfl ?_
  rw [show ((n : Int) + (-1)) = (p : Int) from by omega]
  exact w_ireturn (ty := .int) rfl rfl dJ6_getChars_ba4f3_120 rfl (Nat.le_of_ble_eq_true rfl) (Nat.le_of_ble_eq_true rfl) ⟨rfl, rfl⟩
set_option maxRecDepth 100000 in
theorem cJ_apI {C : Cx} {s : Sg} {c n : Nat} {L : List Int} (hB : SBk s c L) (hc : c = cof L.length) {x : Int} (hx : 0 ≤ x ∧ x < 10) (hn : n = L.length + 1) (h3 : n ≤ 94) (hN : SHN C (cof n)) : mm C MJ_apI 4 1 94 (83 + c) (83 + cof n) [.ref 81, vi x] (hp (83 + c) s) (QSB C s n (L ++ [48 + x]) (some (.ref 81))) XF := by
  have hk80 : KN = 80 := rfl
  have hcm : c ≤ cof n := by rw [hc]; exact cof_mono (by omega)
  have hcp := cof_cpo h3
  have hp94 := cpo_le (cof n)
  have hd2 := cof_le n
  have hB0 := hB
  obtain ⟨a1, a2, a3, a4, a5, a6⟩ := hB0
  refine mm_of rfl rfl (Nat.le_of_ble_eq_true rfl) ?_
  show ww C MJ_apI 4 1 94 (83 + cof n) _ XF (83 + c) 0 0 0 [(0, .ref 81), (1, vi x)] [] (hp (83 + c) s)
  refine w_aload_n 0 dJ5_append_c97b9_0 rfl rfl ?_
  refine xe_getI 13 3 (x := (L.length : Int)) dJ5_append_c97b9_1 (fjJ5_79_13 rfl) rfl hN.1 (by omega) a3 ?_
  refine w_istore_n (lv' := [(2, vi (L.length : Int)), (0, .ref 81), (1, vi x)]) dJ5_append_c97b9_4 rfl (Nat.le_of_ble_eq_true rfl) rfl ?_
  refine w_iload_n 0 dJ5_append_c97b9_5 rfl rfl ?_
  refine w_iload_n 2 dJ5_append_c97b9_6 rfl rfl ?_
  refine w_callT MJ_siz [vi x] (st := [vi (L.length : Int)]) dJ5_append_c97b9_7 (ljJ5_245 rfl) (Nat.le_of_ble_eq_true rfl) (by omega) (by omega) (Nat.le_of_ble_eq_true rfl) (cJ_siz hx) XOK.no (fun v h' hq => ?_)
  obtain ⟨rfl, rfl⟩ := hq
  refine x_iadd dJ5_append_c97b9_10 ?_
  rw [show ((L.length : Int) + 1) = (n : Int) from by rw [hn]; omega]
  refine w_istore_n (lv' := [(3, vi (n : Int)), (2, vi (L.length : Int)), (0, .ref 81), (1, vi x)]) dJ5_append_c97b9_11 rfl (Nat.le_of_ble_eq_true rfl) rfl ?_
  refine w_aload_n 2 dJ5_append_c97b9_12 rfl rfl ?_
  refine w_iload_n 0 dJ5_append_c97b9_13 rfl rfl ?_
  refine w_callU MJ_ens yJ5_ensureCapacityInternal_d00df [vi (n : Int)] (st := []) dJ5_append_c97b9_14 (ljJ5_100 rfl) (by omega) hN.1 (Nat.le_of_ble_eq_true rfl) (by omega) (by omega) (Nat.le_of_ble_eq_true rfl) (cJ_ens hB hc (by omega) (by omega) h3 hN) (fun v h' hq => ?_)
  obtain ⟨rfl, s1, rfl, hB1, hF1⟩ := hq
  have hB1c := hB1
  obtain ⟨b1, b2, b3, b4, b5, b6⟩ := hB1c
  refine w_aload_n 2 dJ5_append_c97b9_17 rfl rfl ?_
  refine w_callU MJ_aL1 yJ5_isLatin1_aae02 [] (st := []) dJ5_append_c97b9_18 (ljJ5_83 rfl) (by omega) hN.1 (Nat.le_of_ble_eq_true rfl) (by omega) (by omega) (Nat.le_of_ble_eq_true rfl) (cJ_aL1 hN.1 (by omega) b2) (fun v h' hq => ?_)
  obtain ⟨rfl, rfl⟩ := hq
  refine w_ifeq dJ5_append_c97b9_21 rfl (fun q => absurd q (fun e9 => absurd ((zE (by unfold R; omega)).mp e9) (by omega))) (fun _ => ?_)
  refine w_iload_n 3 dJ5_append_c97b9_24 rfl rfl ?_
  refine w_iload_n 0 dJ5_append_c97b9_25 rfl rfl ?_
  refine w_aload_n 2 dJ5_append_c97b9_26 rfl rfl ?_
  refine xe_getR 13 0 (b := (82 + cof n)) dJ5_append_c97b9_27 (fjJ5_15_13 rfl) rfl hN.1 (by omega) (by decide) (by omega) b1 ?_
  refine w_callT MJ_gch [vi x, vi (n : Int), .ref (82 + cof n)] (st := []) dJ5_append_c97b9_30 (ljJ5_248 rfl) (Nat.le_of_ble_eq_true rfl) (by omega) (by omega) (Nat.le_of_ble_eq_true rfl) (cJ_gch (p := L.length) hx (by omega) (hN.2 _ (Nat.le_refl _)) ⟨hn, by omega, by omega⟩) XOK.no (fun v h' hq => ?_)
  obtain ⟨rfl, rfl⟩ := hq
  refine w_pop dJ5_append_c97b9_33 rfl ?_
  refine w_goto dJ5_append_c97b9_34 rfl ?_
  refine w_aload_n 2 dJ5_append_c97b9_48 rfl rfl ?_
  refine w_iload_n 0 dJ5_append_c97b9_49 rfl rfl ?_
  refine xe_putI 13 3 dJ5_append_c97b9_50 (pofjJ5_79_13 rfl) rfl hN.1 (by omega) ?_
  refine w_aload_n 2 dJ5_append_c97b9_53 rfl rfl ?_
  refine w_areturn rfl rfl dJ5_append_c97b9_54 rfl (by omega) (by omega) ⟨rfl, _, rfl, SBk_app (W := [(48 + x)]) hB1 ?_ ?_ ?_ ?_ ?_ ?_, ?_⟩
  · show L.length + 1 ≤ _; omega
  · intro j hj
    have hj0 : j = 0 := by have h9 : j < 1 := hj; omega
    subst hj0
    show -128 ≤ (48 + x) ∧ (48 + x) < 128
    omega
  · rfl
  · rw [gi_si, if_neg (by omega), gi_si, if_neg (by omega)]
  · rw [gi_si, if_pos ⟨rfl, rfl⟩, hn]
    rfl
  · intro j hj
    rw [gi_si, if_neg (by omega), gi_si, show [48 + x].length = 1 from rfl]
    by_cases hj2 : j = L.length
    · rw [if_pos ⟨rfl, hj2⟩, if_pos (by omega), hj2, Nat.sub_self]
      rfl
    · rw [if_neg (fun z => hj2 z.2), if_neg (by omega)]
  · refine hF1.tr (Nat.le_refl _) (fun a ha => ⟨funext fun j => ?_, rfl, rfl⟩)
    rw [gi_si, if_neg (by omega), gi_si, if_neg (by omega)]
set_option maxRecDepth 100000 in
theorem cJ_bI {C : Cx} {s : Sg} {c n : Nat} {L : List Int} (hB : SBk s c L) (hc : c = cof L.length) {x : Int} (hx : 0 ≤ x ∧ x < 10) (hn : n = L.length + 1) (h3 : n ≤ 94) (hN : SHN C (cof n)) : mm C MJ_bI 5 1 94 (83 + c) (83 + cof n) [.ref 81, vi x] (hp (83 + c) s) (QSB C s n (L ++ [48 + x]) (some (.ref 81))) XF := by
  have hk80 : KN = 80 := rfl
  refine mm_of rfl rfl (Nat.le_of_ble_eq_true rfl) ?_
  show ww C MJ_bI 5 1 94 (83 + cof n) _ XF (83 + c) 0 0 0 [(0, .ref 81), (1, vi x)] [] (hp (83 + c) s)
  refine w_aload_n 0 dJ4_append_bf812_0 rfl rfl ?_
  refine w_iload_n 1 dJ4_append_bf812_1 rfl rfl ?_
  refine w_callQ MJ_apI [vi x] (st := []) dJ4_append_bf812_2 (ljJ4_53 rfl) (by omega) hN.1 (Nat.le_of_ble_eq_true rfl) (by omega) (by omega) (Nat.le_of_ble_eq_true rfl) (cJ_apI hB hc hx hn h3 hN) (fun v h' hq => ?_)
  obtain ⟨rfl, s1, rfl, hB1, hF1⟩ := hq
  refine w_pop dJ4_append_bf812_5 rfl ?_
  refine w_aload_n 0 dJ4_append_bf812_6 rfl rfl ?_
  exact w_areturn rfl rfl dJ4_append_bf812_7 rfl (by omega) (by omega) ⟨rfl, s1, rfl, hB1, hF1⟩
set_option maxRecDepth 100000 in
theorem cJ_aNew {C : Cx} {s : Sg} {w : Nat} (hw : isStr w) (h6 : wlen w = 6) (hN : SHN C (cof (wlen w))) (hz : gi s 81 3 = 0) : mm C MJ_aNew 7 2 116 82 (83 + cof (wlen w)) [.ref 81, .ref (2000 + w)] (hp 82 s) (QSB C s (wlen w) (wl_ w) none) XF := by
  have hk80 : KN = 80 := rfl
  have h27 : w < 27 := by unfold isStr at hw; omega
  refine mm_of rfl rfl (Nat.le_of_ble_eq_true rfl) ?_
  show ww C MJ_aNew 7 2 116 (83 + cof (wlen w)) _ XF 82 0 0 0 [(0, .ref 81), (1, .ref (2000 + w))] [] (hp 82 s)
  refine w_aload_n 0 dJ5_init_a7421_0 rfl rfl ?_
  refine c_obj dJ5_init_a7421_1 (okJ5_3 rfl) (Nat.le_of_ble_eq_true rfl) (Nat.le_of_ble_eq_true rfl) ?_
  refine w_aload_n 1 dJ5_init_a7421_4 rfl rfl ?_
  refine w_callVs MJ_length [] (w := w) (st := []) dJ5_init_a7421_5 (ljJ5_32 rfl) hw rfl (Nat.le_of_ble_eq_true rfl) (by omega) (by omega) (Nat.le_of_ble_eq_true rfl) (cJ_length hw) XOK.no (fun v h' hq => ?_)
  obtain ⟨rfl, rfl⟩ := hq
  refine w_istore_n (lv' := [(2, vi (slen w)), (0, .ref 81), (1, .ref (2000 + w))]) dJ5_init_a7421_8 rfl (Nat.le_of_ble_eq_true rfl) rfl ?_
  refine w_iload_n 0 dJ5_init_a7421_9 rfl rfl ?_
  refine xe_ldc1 2147483631 dJ5_init_a7421_10 (ckJ5_38 rfl) ?_
  have hsl : slen w = (wlen w : Int) := rfl
  refine w_icmpge dJ5_init_a7421_12 rfl (fun q => absurd q (fun e9 => absurd ((c32m (by unfold R; omega) (by unfold R; omega)).mp e9) (by omega))) (fun _ => ?_)
  refine w_iload_n 0 dJ5_init_a7421_15 rfl rfl ?_
  refine x_bipush dJ5_init_a7421_16 (by decide) ?_
  refine x_iadd dJ5_init_a7421_18 ?_
  rw [show ((slen w) + 16) = (22 : Int) from by show (wlen w : Int) + 16 = 22; omega]
  refine w_goto dJ5_init_a7421_19 rfl ?_
  refine w_istore_n (lv' := [(3, vi (22 : Int)), (2, vi (slen w)), (0, .ref 81), (1, .ref (2000 + w))]) dJ5_init_a7421_24 rfl (Nat.le_of_ble_eq_true rfl) rfl ?_
  refine w_aload_n 3 dJ5_init_a7421_25 rfl rfl ?_
  refine w_callVs MJ_coder [] (w := w) (st := []) dJ5_init_a7421_26 (ljJ5_40 rfl) hw rfl (Nat.le_of_ble_eq_true rfl) (by omega) (by omega) (Nat.le_of_ble_eq_true rfl) (cJ_coder hw) XOK.no (fun v h' hq => ?_)
  obtain ⟨rfl, rfl⟩ := hq
  refine w_istore (lv' := [(4, vi 0), (3, vi (22 : Int)), (2, vi (slen w)), (0, .ref 81), (1, .ref (2000 + w))]) dJ5_init_a7421_29 (Nat.le_of_ble_eq_true rfl) rfl ?_
  refine w_aload_n 3 dJ5_init_a7421_31 rfl rfl ?_
  refine w_iload 0 dJ5_init_a7421_32 rfl ?_
  refine xe_putB 13 1 dJ5_init_a7421_34 (pofjJ5_22_13 rfl) rfl hN.1 (by omega) ?_
  refine w_aload_n 3 dJ5_init_a7421_37 rfl rfl ?_
  refine w_iload 0 dJ5_init_a7421_38 rfl ?_
  refine w_ifne dJ5_init_a7421_40 rfl (fun q => absurd ((zE (by unfold R; omega)).mpr (by omega)) q) (fun _ => ?_)
  refine w_iload_n 1 dJ5_init_a7421_43 rfl rfl ?_
  refine xe_newa .byte 22 (by omega) (by omega) dJ5_init_a7421_44 rfl (hN.2 0 (Nat.zero_le _)) (by omega) (by decide) nk_byte (by omega) (by omega) ?_
  refine w_goto dJ5_init_a7421_46 rfl ?_
  refine xe_putR 13 0 dJ5_init_a7421_53 (pofjJ5_15_13 rfl) rfl hN.1 (by omega) (by decide) (by decide) ?_
  refine w_aload_n 3 dJ5_init_a7421_56 rfl rfl ?_
  refine w_aload_n 4 dJ5_init_a7421_57 rfl rfl ?_
  refine w_callU MJ_bA yJ5_append_cf1ce [.ref (2000 + w)] (st := []) dJ5_init_a7421_58 (ljJ5_43 rfl) (by omega) hN.1 (Nat.le_of_ble_eq_true rfl) (by omega) (by omega) (Nat.le_of_ble_eq_true rfl) (cJ_bA (c := 0) (n := wlen w) (L := []) ⟨rfl, rfl, hz, fun j hj => absurd hj (Nat.not_lt_zero j), Nat.zero_le _, fun j hj => by rw [gi_sd, gi_zr, if_pos rfl]; decide⟩ rfl hw (Nat.zero_add _).symm (by omega) hN) (fun v h' hq => ?_)
  obtain ⟨rfl, s1, rfl, hB1, hF1⟩ := hq
  refine w_pop dJ5_init_a7421_61 rfl ?_
  have hF0 : FrS (cof (wlen w)) s (sd (zr (si s 81 1 0) 82) 81 0 82) := fun a ha => ⟨funext fun j => by rw [gi_sd, gi_zr, if_neg (by omega), gi_si, if_neg (by omega)], funext fun j => by
    show (if a = 82 then 0 else gl s a j) = gl s a j
    rw [if_neg (by omega)], funext fun j => by
    show (if a = 81 ∧ j = 0 then 82 else (if a = 82 then 0 else gd s a j)) = gd s a j
    rw [if_neg (by omega), if_neg (by omega)]⟩
  exact w_return rfl dJ5_init_a7421_62 rfl (by omega) (by omega) ⟨rfl, s1, rfl, hB1, hF0.tr (Nat.le_refl _) hF1⟩
set_option maxRecDepth 100000 in
theorem cJ_sNew {C : Cx} {s : Sg} {w : Nat} (hw : isStr w) (h6 : wlen w = 6) (hN : SHN C (cof (wlen w))) (hz : gi s 81 3 = 0) : mm C MJ_sNew 8 2 116 82 (83 + cof (wlen w)) [.ref 81, .ref (2000 + w)] (hp 82 s) (QSB C s (wlen w) (wl_ w) none) XF := by
  refine mm_of rfl rfl (Nat.le_of_ble_eq_true rfl) ?_
  show ww C MJ_sNew 8 2 116 (83 + cof (wlen w)) _ XF 82 0 0 0 [(0, .ref 81), (1, .ref (2000 + w))] [] (hp 82 s)
  refine w_aload_n 0 dJ4_init_a7421_0 rfl rfl ?_
  refine w_aload_n 1 dJ4_init_a7421_1 rfl rfl ?_
  refine w_callI MJ_aNew [.ref (2000 + w)] (st := []) dJ4_init_a7421_2 (ljJ4_7 rfl) (Nat.le_of_ble_eq_true rfl) (by omega) (by omega) (Nat.le_of_ble_eq_true rfl) (cJ_aNew hw h6 hN hz) XOK.no (fun v h' hq => ?_)
  obtain ⟨rfl, s1, rfl, hB1, hF1⟩ := hq
  exact w_return rfl dJ4_init_a7421_5 rfl (by omega) (by omega) ⟨rfl, s1, rfl, hB1, hF1⟩

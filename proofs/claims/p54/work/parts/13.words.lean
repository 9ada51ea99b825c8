/-! ===== words (String constants) ===== -/
abbrev MJ_length : Mk := (yJ0_length_8abf5, cJ0_length_8abf5, 1, (some .int), [])
theorem lk0J_length : LK0 MJ_length 0 := ⟨(lw_all_mem (List.mem_append_right _ (List.mem_of_getElem? (i := 16) (by decide +kernel))) (by decide +kernel)), (lw_all_mem (List.mem_append_right _ (List.mem_of_getElem? (i := 436) (by decide +kernel))) (by decide +kernel)), ⟨by decide +kernel, by decide +kernel, by decide +kernel⟩, by decide +kernel⟩
abbrev MJ_coder : Mk := (yJ0_coder_7d493, cJ0_coder_7d493, 1, (some .byte), [])
theorem lk0J_coder : LK0 MJ_coder 0 := ⟨(lw_all_mem (List.mem_append_right _ (List.mem_of_getElem? (i := 16) (by decide +kernel))) (by decide +kernel)), (lw_all_mem (List.mem_append_right _ (List.mem_of_getElem? (i := 440) (by decide +kernel))) (by decide +kernel)), ⟨by decide +kernel, by decide +kernel, by decide +kernel⟩, by decide +kernel⟩
abbrev MJ_charAt : Mk := (yJ0_charAt_5068e, cJ0_charAt_5068e, 2, (some .char), [])
theorem lk0J_charAt : LK0 MJ_charAt 1 := ⟨(lw_all_mem (List.mem_append_right _ (List.mem_of_getElem? (i := 16) (by decide +kernel))) (by decide +kernel)), (lw_all_mem (List.mem_append_right _ (List.mem_of_getElem? (i := 702) (by decide +kernel))) (by decide +kernel)), ⟨by decide +kernel, by decide +kernel, by decide +kernel⟩, by decide +kernel⟩
abbrev MJ_isLatin1 : Mk := (yJ0_isLatin1_aae02, cJ0_isLatin1_aae02, 1, (some .boolean), [])
theorem lk0J_isLatin1 : LK0 MJ_isLatin1 0 := ⟨(lw_all_mem (List.mem_append_right _ (List.mem_of_getElem? (i := 16) (by decide +kernel))) (by decide +kernel)), (lw_all_mem (List.mem_append_right _ (List.mem_of_getElem? (i := 706) (by decide +kernel))) (by decide +kernel)), ⟨by decide +kernel, by decide +kernel, by decide +kernel⟩, by decide +kernel⟩
abbrev MJ_l1 : Mk := (yJ1_charAt_3b067, cJ1_charAt_3b067, 2, (some .char), [])
theorem lk0J_l1 : LK0 MJ_l1 2 := ⟨(lw_all_mem (List.mem_append_right _ (List.mem_of_getElem? (i := 22) (by decide +kernel))) (by decide +kernel)), (lw_all_mem (List.mem_append_right _ (List.mem_of_getElem? (i := 709) (by decide +kernel))) (by decide +kernel)), ⟨by decide +kernel, by decide +kernel, by decide +kernel⟩, by decide +kernel⟩
abbrev MJ_sck : Mk := (yJ0_checkIndex_df160, cJ0_checkIndex_df160, 2, none, [])
theorem lk0J_sck : LK0 MJ_sck 2 := ⟨(lw_all_mem (List.mem_append_right _ (List.mem_of_getElem? (i := 16) (by decide +kernel))) (by decide +kernel)), (lw_all_mem (List.mem_append_right _ (List.mem_of_getElem? (i := 629) (by decide +kernel))) (by decide +kernel)), ⟨by decide +kernel, by decide +kernel, by decide +kernel⟩, by decide +kernel⟩
abbrev MJ_pck : Mk := (yJ3_checkIndex_8e157, cJ3_checkIndex_8e157, 3, (some .int), [])
theorem lk0J_pck : LK0 MJ_pck 3 := ⟨(lw_all_mem (List.mem_append_right _ (List.mem_of_getElem? (i := 21) (by decide +kernel))) (by decide +kernel)), (lw_all_mem (List.mem_append_right _ (List.mem_of_getElem? (i := 632) (by decide +kernel))) (by decide +kernel)), ⟨by decide +kernel, by decide +kernel, by decide +kernel⟩, by decide +kernel⟩
theorem lkJ_coder : LKV MJ_length MJ_coder 335 0 := ⟨lk0J_coder, (lw_all_mem (List.mem_append_right _ (List.mem_of_getElem? (i := 437) (by decide +kernel))) (by decide +kernel)), (lw_all_mem (List.mem_append_right _ (List.mem_of_getElem? (i := 438) (by decide +kernel))) (by decide +kernel)), (lw_all_mem (List.mem_append_right _ (List.mem_of_getElem? (i := 439) (by decide +kernel))) (by decide +kernel))⟩
theorem lkJ_isLatin1 : LKV MJ_charAt MJ_isLatin1 492 0 := ⟨lk0J_isLatin1, (lw_all_mem (List.mem_append_right _ (List.mem_of_getElem? (i := 703) (by decide +kernel))) (by decide +kernel)), (lw_all_mem (List.mem_append_right _ (List.mem_of_getElem? (i := 704) (by decide +kernel))) (by decide +kernel)), (lw_all_mem (List.mem_append_right _ (List.mem_of_getElem? (i := 705) (by decide +kernel))) (by decide +kernel))⟩
theorem lkJ_l1 : LKT MJ_charAt MJ_l1 495 2 := ⟨lk0J_l1, (lw_all_mem (List.mem_append_right _ (List.mem_of_getElem? (i := 707) (by decide +kernel))) (by decide +kernel)), (lw_all_mem (List.mem_append_right _ (List.mem_of_getElem? (i := 708) (by decide +kernel))) (by decide +kernel))⟩
theorem lkJ_sck : LKT MJ_l1 MJ_sck 9 2 := ⟨lk0J_sck, (lw_all_mem (List.mem_append_right _ (List.mem_of_getElem? (i := 710) (by decide +kernel))) (by decide +kernel)), (lw_all_mem (List.mem_append_right _ (List.mem_of_getElem? (i := 628) (by decide +kernel))) (by decide +kernel))⟩
theorem lkJ_pck : LKT MJ_sck MJ_pck 1059 3 := ⟨lk0J_pck, (lw_all_mem (List.mem_append_right _ (List.mem_of_getElem? (i := 630) (by decide +kernel))) (by decide +kernel)), (lw_all_mem (List.mem_append_right _ (List.mem_of_getElem? (i := 631) (by decide +kernel))) (by decide +kernel))⟩
theorem fJ_cs : Cond.fieldLink "java/lang/String" 38 "java/lang/String" "COMPACT_STRINGS" "Z" ∈ lw_all := (lw_all_mem (List.mem_append_right _ (List.mem_of_getElem? (i := 441) (by decide +kernel))) (by decide +kernel))
theorem fJ_val : Cond.fieldLink "java/lang/String" 9 "java/lang/String" "value" "[B" ∈ lw_all := (lw_all_mem (List.mem_append_right _ (List.mem_of_getElem? (i := 684) (by decide +kernel))) (by decide +kernel))
theorem fJ_cod : Cond.fieldLink "java/lang/String" 15 "java/lang/String" "coder" "B" ∈ lw_all := (lw_all_mem (List.mem_append_right _ (List.mem_of_getElem? (i := 685) (by decide +kernel))) (by decide +kernel))
theorem fJ_sio : Cond.fieldLink "java/lang/String" 1053 "jdk/internal/util/Preconditions" "SIOOBE_FORMATTER" "Ljava/util/function/BiFunction;" ∈ lw_all := (lw_all_mem (List.mem_append_right _ (List.mem_of_getElem? (i := 520) (by decide +kernel))) (by decide +kernel))
def sioA (C : Cx) : Value := if xV C 1900 0 = 0 then .null else .ref 1900
theorem sio_up (C : Cx) : up C (sioA C) = sio C := by
  unfold sioA sio
  split
  · rfl
  · show Value.ref (ad C 1900) = _
    rw [ad_ge (by omega)]
theorem sio_cat (C : Cx) : (sioA C).category = 1 := by
  unfold sioA
  split <;> rfl
section STRINGS
variable {C : Cx} {M : Mk} {d mc ms ne : Nat} {Qr : Option Value → Hp → Prop} {Qx : String → Hp → Prop} {nx k n pc : Nat} {lv lv' : List (Nat × Value)} {st stk : List Value} {h : Hp}
theorem x_getsC {idx : Nat} (hd : decode (mB M) pc = .ok (.getstatic idx, 3)) (hlk : Cond.fieldLink (mY M).cls idx "java/lang/String" "COMPACT_STRINGS" "Z" ∈ lw_all) (kk : ww C M d mc ms ne Qr Qx nx k n (pc + 3) lv (vi 1 :: st) h) : ww C M d mc ms ne Qr Qx nx k n pc lv st h := by
  intro p l e s m args below meth c Fin cz hr hx hzz H locs ls hP hS hL
  exact va_gets (A := xAl C) (v := .int 1) cz.1.1 cz.1.2.1 cz.2.2.2.1.2.2.2.2.2.2.2.1 hS cz.1.2.2.2.2 (cz.2.1 _ hlk) (fun _ z => z) hd (kk p l e s m args below meth c Fin cz hr hx hzz H locs ls hP hS hL)
theorem x_getsF {idx : Nat} (hd : decode (mB M) pc = .ok (.getstatic idx, 3)) (hlk : Cond.fieldLink (mY M).cls idx "jdk/internal/util/Preconditions" "SIOOBE_FORMATTER" "Ljava/util/function/BiFunction;" ∈ lw_all) (kk : ww C M d mc ms ne Qr Qx nx k n (pc + 3) lv (sioA C :: st) h) : ww C M d mc ms ne Qr Qx nx k n pc lv st h := by
  intro p l e s m args below meth c Fin cz hr hx hzz H locs ls hP hS hL
  have h9 := kk p l e s m args below meth c Fin cz hr hx hzz H locs ls hP hS hL
  rw [List.map_cons, sio_up] at h9
  exact va_gets (A := xAl C) (v := sio C) cz.1.1 cz.1.2.1 cz.2.2.2.1.2.2.2.2.2.2.2.2 hS cz.1.2.2.2.2 (cz.2.1 _ hlk) (fun _ z => z) hd h9
theorem x_strcod {w idx : Nat} (hsw : isStr w) (hd : decode (mB M) pc = .ok (.getfield idx, 3)) (hlk : Cond.fieldLink (mY M).cls idx "java/lang/String" "coder" "B" ∈ lw_all) (kk : ww C M d mc ms ne Qr Qx nx k n (pc + 3) lv (vi 0 :: st) h) : ww C M d mc ms ne Qr Qx nx k n pc lv (.ref (2000 + w) :: st) h := by
  intro p l e s m args below meth c Fin cz hr hx hzz H locs ls hP hS hL
  show W p l e _ s m args below meth c H locs k n Fin (F0 m pc ls (.ref (ad C (2000 + w)) :: st.map (up C)))
  rw [ad_ge (by omega)]
  exact vk_getf (v := .int 0) cz.1.1 cz.1.2.1 (cz.2.2.2.1.2.2.2.2.2.2.1 w hsw).2.1 hS cz.1.2.2.2.2 (cz.2.1 _ hlk) (fun _ z => z) hd (kk p l e s m args below meth c Fin cz hr hx hzz H locs ls hP hS hL)
theorem x_strval {w idx : Nat} (hsw : isStr w) (hd : decode (mB M) pc = .ok (.getfield idx, 3)) (hlk : Cond.fieldLink (mY M).cls idx "java/lang/String" "value" "[B" ∈ lw_all) (kk : ww C M d mc ms ne Qr Qx nx k n (pc + 3) lv (.ref (2100 + w) :: st) h) : ww C M d mc ms ne Qr Qx nx k n pc lv (.ref (2000 + w) :: st) h := by
  intro p l e s m args below meth c Fin cz hr hx hzz H locs ls hP hS hL
  show W p l e _ s m args below meth c H locs k n Fin (F0 m pc ls (.ref (ad C (2000 + w)) :: st.map (up C)))
  rw [ad_ge (by omega)]
  have h9 := kk p l e s m args below meth c Fin cz hr hx hzz H locs ls hP hS hL
  rw [List.map_cons, up_ref, ad_ge (by omega)] at h9
  exact vk_getf (v := .ref (xO C (2100 + w))) cz.1.1 cz.1.2.1 (cz.2.2.2.1.2.2.2.2.2.2.1 w hsw).2.2.1 hS cz.1.2.2.2.2 (cz.2.1 _ hlk) (fun _ z => z) hd h9
theorem x_bylen {w : Nat} (hsw : isStr w) (hd : decode (mB M) pc = .ok (.arraylength, 1)) (kk : ww C M d mc ms ne Qr Qx nx k n (pc + 1) lv (vi (wlen w : Int) :: st) h) : ww C M d mc ms ne Qr Qx nx k n pc lv (.ref (2100 + w) :: st) h := by
  intro p l e s m args below meth c Fin cz hr hx hzz H locs ls hP hS hL
  show W p l e _ s m args below meth c H locs k n Fin (F0 m pc ls (.ref (ad C (2100 + w)) :: st.map (up C)))
  rw [ad_ge (by omega)]
  exact va_tlen (v := Int32.ofInt (wlen w : Int)) cz.1.1 cz.1.2.1 (cz.2.2.2.1.2.2.2.2.2.2.1 w hsw).2.2.2 hS (by rw [← Int32.ofInt_eq_ofNat]) hd (kk p l e s m args below meth c Fin cz hr hx hzz H locs ls hP hS hL)
theorem wlen_le (w : Nat) : wlen w ≤ 4096 := by
  by_cases h : w < 27
  · have : ∀ w, w < 27 → wlen w ≤ 4096 := by decide
    exact this w h
  · unfold wlen
    rw [List.getElem?_eq_none (by show 27 ≤ w; omega)]
    decide
theorem x_byald {w : Nat} {i : Int} (hsw : isStr w) (hi : 0 ≤ i ∧ i < (wlen w : Int)) (hd : decode (mB M) pc = .ok (.baload, 1)) (kk : ww C M d mc ms ne Qr Qx nx k n (pc + 1) lv (vi (wch w i.toNat) :: st) h) : ww C M d mc ms ne Qr Qx nx k n pc lv (vi i :: .ref (2100 + w) :: st) h := by
  intro p l e s m args below meth c Fin cz hr hx hzz H locs ls hP hS hL
  show W p l e _ s m args below meth c H locs k n Fin (F0 m pc ls (.int (Int32.ofInt i) :: .ref (ad C (2100 + w)) :: st.map (up C)))
  rw [ad_ge (by omega)]
  obtain ⟨h1, h2⟩ := ix_v hi (wlen_le w)
  exact va_tb (v := .int (Int32.ofInt (wch w i.toNat))) cz.1.1 cz.1.2.1 (cz.2.2.2.1.2.2.2.2.2.2.1 w hsw).2.2.2 hS h1 (by rw [h2]) hd (kk p l e s m args below meth c Fin cz hr hx hzz H locs ls hP hS hL)
theorem w_i2c {x v : Int32} (hd : decode (mB M) pc = .ok (.i2c, 1)) (hv : (x.toUInt32 % 65536).toInt32 = v) (kk : ww C M d mc ms ne Qr Qx nx k n (pc + 1) lv (.int v :: st) h) : ww C M d mc ms ne Qr Qx nx k n pc lv (.int x :: st) h := by
  intro p l e s m args below meth c Fin cz hr hx hzz H locs ls hP hS hL
  exact lv_i2c cz.1.1 cz.1.2.1 hd hv (kk p l e s m args below meth c Fin cz hr hx hzz H locs ls hP hS hL)
theorem x_ldcS {idx q : Nat} {tx : String} (hd : decode (mB M) pc = .ok (.ldc idx, 2)) (hm : ((mY M).cls, idx, tx, q) ∈ strL) (hq : 1000 ≤ q) (kk : ww C M d mc ms ne Qr Qx nx k n (pc + 2) lv (.ref q :: st) h) : ww C M d mc ms ne Qr Qx nx k n pc lv st h := by
  intro p l e s m args below meth c Fin cz hr hx hzz H locs ls hP hS hL
  have h9 := kk p l e s m args below meth c Fin cz hr hx hzz H locs ls hP hS hL
  rw [List.map_cons, up_ref, ad_ge hq] at h9
  exact va_ldcS cz.1.1 cz.1.2.1 cz.1.2.2.2.2 (cz.2.2.2.1.2.2.2.2.2.1.2 _ hm) hd h9
end STRINGS
section SM
variable {C : Cx} {nx : Nat} {s : Sg}
theorem cJ_coder {w : Nat} (hw : isStr w) : mm C MJ_coder 0 0 0 nx nx [.ref (2000 + w)] (hp nx s) (QI nx s 0) XF := by
  refine mm_of rfl rfl (Nat.le_of_ble_eq_true rfl) ?_
  show ww C MJ_coder 0 0 0 nx (QI nx s 0) XF nx 0 0 0 [(0, .ref (2000 + w))] [] (hp nx s)
  refine x_getsC dJ0_coder_7d493_0 fJ_cs ?_
  refine w_ifeq dJ0_coder_7d493_3 rfl (fun q => absurd q (by decide)) (fun _ => ?_)
  refine w_aload_n 0 dJ0_coder_7d493_6 rfl rfl ?_
  refine x_strcod hw dJ0_coder_7d493_7 fJ_cod ?_
  refine w_goto dJ0_coder_7d493_10 rfl ?_
  exact w_ireturn (ty := .byte) rfl rfl dJ0_coder_7d493_14 rfl (Nat.le_refl _) (Nat.le_refl _) ⟨rfl, rfl⟩
theorem cJ_isLatin1 {w : Nat} (hw : isStr w) : mm C MJ_isLatin1 0 0 0 nx nx [.ref (2000 + w)] (hp nx s) (QI nx s 1) XF := by
  refine mm_of rfl rfl (Nat.le_of_ble_eq_true rfl) ?_
  show ww C MJ_isLatin1 0 0 0 nx (QI nx s 1) XF nx 0 0 0 [(0, .ref (2000 + w))] [] (hp nx s)
  refine x_getsC dJ0_isLatin1_aae02_0 fJ_cs ?_
  refine w_ifeq dJ0_isLatin1_aae02_3 rfl (fun q => absurd q (by decide)) (fun _ => ?_)
  refine w_aload_n 0 dJ0_isLatin1_aae02_6 rfl rfl ?_
  refine x_strcod hw dJ0_isLatin1_aae02_7 fJ_cod ?_
  refine w_ifne dJ0_isLatin1_aae02_10 rfl (fun q => absurd (show Int32.ofInt 0 = 0 by decide) q) (fun _ => ?_)
  refine x_iconst dJ0_isLatin1_aae02_13 ?_
  refine w_goto dJ0_isLatin1_aae02_14 rfl ?_
  exact w_ireturn (ty := .boolean) rfl rfl dJ0_isLatin1_aae02_18 rfl (Nat.le_refl _) (Nat.le_refl _) ⟨rfl, rfl⟩
theorem ishr_wlen (w : Nat) (hw : isStr w) : ishrI (wlen w) 0 = wlen w := by
  have : ∀ w, w < 27 → ishrI (wlen w) 0 = wlen w := by decide
  exact this w (by unfold isStr at hw; omega)
theorem cJ_length {w : Nat} (hw : isStr w) : mm C MJ_length 1 0 0 nx nx [.ref (2000 + w)] (hp nx s) (QI nx s (slen w)) XF := by
  refine mm_of rfl rfl (Nat.le_of_ble_eq_true rfl) ?_
  show ww C MJ_length 1 0 0 nx (QI nx s (slen w)) XF nx 0 0 0 [(0, .ref (2000 + w))] [] (hp nx s)
  refine w_aload_n 0 dJ0_length_8abf5_0 rfl rfl ?_
  refine x_strval hw dJ0_length_8abf5_1 fJ_val ?_
  refine x_bylen hw dJ0_length_8abf5_4 ?_
  refine w_aload_n 0 dJ0_length_8abf5_5 rfl rfl ?_
  refine w_callVs MJ_coder [] (w := w) (st := [vi (wlen w : Int)]) dJ0_length_8abf5_6 lkJ_coder hw rfl (Nat.le_of_ble_eq_true rfl) (Nat.le_of_ble_eq_true rfl) (Nat.le_of_ble_eq_true rfl) (Nat.le_of_ble_eq_true rfl) (cJ_coder hw) XOK.no (fun v h' hq => ?_)
  obtain ⟨rfl, rfl⟩ := hq
  refine x_ishr dJ0_length_8abf5_9 ?_
  rw [ishr_wlen w hw]
  exact x_ireturn dJ0_length_8abf5_10 rfl rfl (Nat.le_refl _) (Nat.le_refl _) ⟨rfl, rfl⟩
theorem cJ_pck {i m1 : Int} {v : Value} (hv : v.category = 1) (hi : 0 ≤ i ∧ i < m1) (hR : R i ∧ R m1) : mm C MJ_pck 0 0 0 nx nx [vi i, vi m1, v] (hp nx s) (QI nx s i) XF := by
  refine mm_of rfl rfl (by show 1 + (1 + (v.category + 0)) ≤ 3; omega) ?_
  have e : lv_args 0 [vi i, vi m1, v] = [(0, vi i), (1, vi m1), (2, v)] := rfl
  rw [e]
  refine w_iload_n 0 dJ3_checkIndex_8e157_0 rfl rfl ?_
  refine w_iflt dJ3_checkIndex_8e157_1 rfl (fun q => absurd q (by rw [z32, c32l hR.1 R0]; omega)) (fun _ => ?_)
  refine w_iload_n 0 dJ3_checkIndex_8e157_4 rfl rfl ?_
  refine w_iload_n 1 dJ3_checkIndex_8e157_5 rfl rfl ?_
  refine w_icmplt dJ3_checkIndex_8e157_6 rfl (fun _ => ?_) (fun q => absurd ((c32l hR.1 hR.2).mpr hi.2) q)
  refine w_iload_n 0 dJ3_checkIndex_8e157_16 rfl rfl ?_
  exact x_ireturn dJ3_checkIndex_8e157_17 rfl rfl (Nat.le_refl _) (Nat.le_refl _) ⟨rfl, rfl⟩
theorem cJ_sck {i m1 : Int} (hi : 0 ≤ i ∧ i < m1) (hR : R i ∧ R m1) : mm C MJ_sck 1 0 0 nx nx [vi i, vi m1] (hp nx s) (QV nx s) XF := by
  refine mm_of rfl rfl (Nat.le_of_ble_eq_true rfl) ?_
  show ww C MJ_sck 1 0 0 nx (QV nx s) XF nx 0 0 0 [(0, vi i), (1, vi m1)] [] (hp nx s)
  refine w_iload_n 0 dJ0_checkIndex_df160_0 rfl rfl ?_
  refine w_iload_n 1 dJ0_checkIndex_df160_1 rfl rfl ?_
  refine x_getsF dJ0_checkIndex_df160_2 fJ_sio ?_
  refine w_callT MJ_pck [vi i, vi m1, sioA C] (st := []) dJ0_checkIndex_df160_5 lkJ_pck (Nat.le_of_ble_eq_true rfl) (Nat.le_of_ble_eq_true rfl) (Nat.le_of_ble_eq_true rfl) (Nat.le_of_ble_eq_true rfl) (cJ_pck (sio_cat C) hi hR) XOK.no (fun v h' hq => ?_)
  obtain ⟨rfl, rfl⟩ := hq
  refine w_pop dJ0_checkIndex_df160_8 rfl ?_
  exact w_return rfl dJ0_checkIndex_df160_9 rfl (Nat.le_refl _) (Nat.le_refl _) ⟨rfl, rfl⟩
theorem wch_v : ∀ w, w < 27 → ∀ j, j < 11 → ((Int32.ofInt (iandI (wch w j) 255)).toUInt32 % 65536).toInt32 = Int32.ofInt (wch w j) ∧ narrow .char (.int (Int32.ofInt (wch w j))) = .int (Int32.ofInt (wch w j)) := by decide +kernel
theorem wlen5 : ∀ w, w < 27 → wlen w ≤ 11 := by decide
theorem cJ_l1 {w : Nat} {i : Int} (hw : isStr w) (hi : 0 ≤ i ∧ i < (wlen w : Int)) : mm C MJ_l1 2 0 0 nx nx [.ref (2100 + w), vi i] (hp nx s) (QI nx s (wch w i.toNat)) XF := by
  have hw16 : w < 27 := by unfold isStr at hw; omega
  have h5 := wlen5 w hw16
  obtain ⟨e1, e2⟩ := wch_v w hw16 i.toNat (by omega)
  refine mm_of rfl rfl (Nat.le_of_ble_eq_true rfl) ?_
  show ww C MJ_l1 2 0 0 nx (QI nx s (wch w i.toNat)) XF nx 0 0 0 [(0, .ref (2100 + w)), (1, vi i)] [] (hp nx s)
  refine w_iload_n 1 dJ1_charAt_3b067_0 rfl rfl ?_
  refine w_aload_n 0 dJ1_charAt_3b067_1 rfl rfl ?_
  refine x_bylen hw dJ1_charAt_3b067_2 ?_
  refine w_callT MJ_sck [vi i, vi (wlen w : Int)] (st := []) dJ1_charAt_3b067_3 lkJ_sck (Nat.le_of_ble_eq_true rfl) (Nat.le_of_ble_eq_true rfl) (Nat.le_of_ble_eq_true rfl) (Nat.le_of_ble_eq_true rfl) (cJ_sck hi ⟨by unfold R; omega, by unfold R; omega⟩) XOK.no (fun v h' hq => ?_)
  obtain ⟨rfl, rfl⟩ := hq
  refine w_aload_n 0 dJ1_charAt_3b067_6 rfl rfl ?_
  refine w_iload_n 1 dJ1_charAt_3b067_7 rfl rfl ?_
  refine x_byald hw hi dJ1_charAt_3b067_8 ?_
  refine x_sipush dJ1_charAt_3b067_9 (by decide) ?_
  refine x_iand dJ1_charAt_3b067_12 ?_
  refine w_i2c dJ1_charAt_3b067_13 e1 ?_
  exact w_ireturn (ty := .char) rfl e2 dJ1_charAt_3b067_14 rfl (Nat.le_refl _) (Nat.le_refl _) ⟨rfl, rfl⟩
theorem cJ_charAt {w : Nat} {i : Int} (hw : isStr w) (hi : 0 ≤ i ∧ i < (wlen w : Int)) : mm C MJ_charAt 3 0 0 nx nx [.ref (2000 + w), vi i] (hp nx s) (QI nx s (wch w i.toNat)) XF := by
  have hw16 : w < 27 := by unfold isStr at hw; omega
  have h5 := wlen5 w hw16
  obtain ⟨-, e2⟩ := wch_v w hw16 i.toNat (by omega)
  refine mm_of rfl rfl (Nat.le_of_ble_eq_true rfl) ?_
  show ww C MJ_charAt 3 0 0 nx (QI nx s (wch w i.toNat)) XF nx 0 0 0 [(0, .ref (2000 + w)), (1, vi i)] [] (hp nx s)
  refine w_aload_n 0 dJ0_charAt_5068e_0 rfl rfl ?_
  refine w_callVs MJ_isLatin1 [] (w := w) (st := []) dJ0_charAt_5068e_1 lkJ_isLatin1 hw rfl (Nat.le_of_ble_eq_true rfl) (Nat.le_of_ble_eq_true rfl) (Nat.le_of_ble_eq_true rfl) (Nat.le_of_ble_eq_true rfl) (cJ_isLatin1 hw) XOK.no (fun v h' hq => ?_)
  obtain ⟨rfl, rfl⟩ := hq
  refine w_ifeq dJ0_charAt_5068e_4 rfl (fun q => absurd q (by decide)) (fun _ => ?_)
  refine w_aload_n 0 dJ0_charAt_5068e_7 rfl rfl ?_
  refine x_strval hw dJ0_charAt_5068e_8 fJ_val ?_
  refine w_iload_n 1 dJ0_charAt_5068e_11 rfl rfl ?_
  refine w_callT MJ_l1 [.ref (2100 + w), vi i] (st := []) dJ0_charAt_5068e_12 lkJ_l1 (Nat.le_of_ble_eq_true rfl) (Nat.le_of_ble_eq_true rfl) (Nat.le_of_ble_eq_true rfl) (Nat.le_of_ble_eq_true rfl) (cJ_l1 hw hi) XOK.no (fun v h' hq => ?_)
  obtain ⟨rfl, rfl⟩ := hq
  exact w_ireturn (ty := .char) rfl e2 dJ0_charAt_5068e_15 rfl (Nat.le_refl _) (Nat.le_refl _) ⟨rfl, rfl⟩
end SM
section SX
variable {C : Cx} {M : Mk} {d mc ms ne : Nat} {Qr : Option Value → Hp → Prop} {Qx : String → Hp → Prop} {nx k n pc : Nat} {lv lv' : List (Nat × Value)} {st stk : List Value} {s : Sg}
theorem x_slen {w idx : Nat} (hd : decode (mB M) pc = .ok (.invokevirtual idx, 3)) (hlk : Cond.methodLink (mY M).cls idx ⟨"java/lang/String", "length", "()I"⟩ ∈ lw_all) (hw : isStr w) (hdd : 9 ≤ d) (hk : k ≤ mc) (hn : n ≤ ms) (hst : (st.map fun v => v.category).sum ≤ 8) (kk : ww C M d mc ms ne Qr Qx nx k n (pc + 3) lv (vi (slen w) :: st) (hp nx s)) : ww C M d mc ms ne Qr Qx nx k n pc lv (.ref (2000 + w) :: st) (hp nx s) := by
  refine w_callVs MJ_length [] (w := w) (st := st) hd ⟨lk0J_length, hlk, (lw_all_mem (List.mem_append_right _ (List.mem_of_getElem? (i := 434) (by decide +kernel))) (by decide +kernel)), (lw_all_mem (List.mem_append_right _ (List.mem_of_getElem? (i := 435) (by decide +kernel))) (by decide +kernel))⟩ hw rfl (show 1 + 1 ≤ d by omega) hk hn hst (cJ_length hw) XOK.no (fun v h' hq => ?_)
  obtain ⟨rfl, rfl⟩ := hq
  exact kk
theorem x_schr {w idx : Nat} {i : Int} (hi : 0 ≤ i ∧ i < slen w) (hd : decode (mB M) pc = .ok (.invokevirtual idx, 3)) (hlk : Cond.methodLink (mY M).cls idx ⟨"java/lang/String", "charAt", "(I)C"⟩ ∈ lw_all) (hw : isStr w) (hdd : 9 ≤ d) (hk : k ≤ mc) (hn : n ≤ ms) (hst : (st.map fun v => v.category).sum ≤ 8) (kk : ww C M d mc ms ne Qr Qx nx k n (pc + 3) lv (vi (schr w i) :: st) (hp nx s)) : ww C M d mc ms ne Qr Qx nx k n pc lv (vi i :: .ref (2000 + w) :: st) (hp nx s) := by
  refine w_callVs MJ_charAt [vi i] (w := w) (st := st) hd ⟨lk0J_charAt, hlk, (lw_all_mem (List.mem_append_right _ (List.mem_of_getElem? (i := 700) (by decide +kernel))) (by decide +kernel)), (lw_all_mem (List.mem_append_right _ (List.mem_of_getElem? (i := 701) (by decide +kernel))) (by decide +kernel))⟩ hw rfl (show 3 + 1 ≤ d by omega) hk hn hst (cJ_charAt hw hi) XOK.no (fun v h' hq => ?_)
  obtain ⟨rfl, rfl⟩ := hq
  exact kk
end SX


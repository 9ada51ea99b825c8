/-! ===== rows and objects that come, with what they hold ===== -/
def zr (s : Sg) (a : Nat) : Sg := (fun b j => if b = a then 0 else s.1 b j, fun b j => if b = a then 0 else s.2.1 b j, fun b j => if b = a then 0 else s.2.2 b j)
theorem gi_zr (s : Sg) (a b j : Nat) : gi (zr s a) b j = if b = a then 0 else gi s b j := rfl
theorem gd_zr (s : Sg) (a b j : Nat) : gd (zr s a) b j = if b = a then 0 else gd s b j := rfl
theorem gl_zr (s : Sg) (a b j : Nat) : gl (zr s a) b j = if b = a then 0 else gl s b j := rfl
theorem hp_zr {C : Cx} {nx : Nat} {s : Sg} {H : Heap} (hP : HPh C nx (hp nx s) H) (hK : nx < KC C) (hk : KN ≤ nx) : hp nx s = hp (nx + 1) (zr s nx) := by
  have h0 := hP.2.2.2.2.2 nx (Nat.le_refl _) hK
  refine Prod.ext ?_ (Prod.ext ?_ (Prod.ext ?_ rfl))
  · funext a f
    show Int32.ofInt (s.1 a f) = Int32.ofInt (if a = nx then 0 else s.1 a f)
    split
    · rename_i e
      subst e
      exact (h0 f).1
    · rfl
  · funext a f
    show (if a < nx then (if a < KN then RT a f else drf (s.2.2 a f)) else none) = (if a < nx + 1 then (if a < KN then RT a f else drf (if a = nx then 0 else s.2.2 a f)) else none)
    by_cases h1 : a < nx
    · rw [if_pos h1, if_pos (show a < nx + 1 by omega), if_neg (show ¬ a = nx by omega)]
    · rw [if_neg h1]
      by_cases h2 : a < nx + 1
      · rw [if_pos h2, if_neg (show ¬ a < KN by omega), if_pos (show a = nx by omega)]
        rfl
      · rw [if_neg h2]
  · funext a f
    show Int64.ofInt (s.2.1 a f) = Int64.ofInt (if a = nx then 0 else s.2.1 a f)
    split
    · rename_i e
      subst e
      exact (h0 f).2.2.1
    · rfl
theorem byt_fit {x : Int} (h : -128 ≤ x ∧ x < 128) : fits .byte (.int (Int32.ofInt x)) = true := by
  have h1 : ∀ n : Nat, n < 256 → fits .byte (.int (Int32.ofInt ((n : Int) - 128))) = true := by decide +kernel
  have h2 := h1 (x + 128).toNat (by omega)
  rw [show (((x + 128).toNat : Nat) : Int) - 128 = x by omega] at h2
  exact h2
theorem i2b_id {x : Int} (h : -128 ≤ x ∧ x < 128) : i2bI x = x := by
  have h1 : ∀ n : Nat, n < 256 → i2bI ((n : Int) - 128) = (n : Int) - 128 := by decide +kernel
  have h2 := h1 (x + 128).toNat (by omega)
  rw [show (((x + 128).toNat : Nat) : Int) - 128 = x by omega] at h2
  exact h2
section NX
variable {C : Cx} {M : Mk} {d mc ms ne : Nat} {Qr : Option Value → Hp → Prop} {Qx : String → Hp → Prop} {nx k n pc : Nat} {lv lv' : List (Nat × Value)} {st stk : List Value} {h : Hp} {s : Sg}
theorem xe_new (ci : Nat) {idx : Nat} (hd : decode (mB M) pc = .ok (.new idx, 3)) (hs : shC C nx = some (.inl ci)) (hn0 : KN ≤ nx) (hlk : Cond.classLink (mY M).cls idx (cR ci) ∈ lw_all ∧ Cond.instantiable (cR ci) (cn ci) ∈ lw_all ∧ Cond.initialized (cR ci) ∈ lw_all) (hk : k + 1 ≤ mc) (hn : n + cn ci ≤ ms) (kk : ww C M d mc ms ne Qr Qx (nx + 1) (k + 1) (n + cn ci) (pc + 3) lv (.ref nx :: st) (hp (nx + 1) (zr s nx))) : ww C M d mc ms ne Qr Qx nx k n pc lv st (hp nx s) := by
  intro p l e s9 m args below meth c Fin cz hr hx hzz H locs ls hP hS hL
  have e9 := hp_zr hP (shC_lt hs) hn0
  exact c_new ci hd hs hlk hk hn rfl rfl rfl (by rw [e9]; exact kk) p l e s9 m args below meth c Fin cz hr hx hzz H locs ls hP hS hL
theorem xe_newa (ty : FieldType) (N : Nat) {at_ : ArrayType} {x : Int} (hx9 : x = (N : Int)) (hN : N ≤ 4096) (hd : decode (mB M) pc = .ok (.newarray at_, 2)) (hty : newarray.typeOf at_ = ty) (hs : shC C nx = some (.inr (ty, N))) (hn0 : KN ≤ nx) (hpr : ty = .int ∨ ty = .boolean ∨ ty = .byte) (hlk : Cond.arrayClass ty ∈ lw_all) (hk : k + 1 ≤ mc) (hn : n + N ≤ ms) (kk : ww C M d mc ms ne Qr Qx (nx + 1) (k + 1) (n + N) (pc + 2) lv (.ref nx :: st) (hp (nx + 1) (zr s nx))) : ww C M d mc ms ne Qr Qx nx k n pc lv (vi x :: st) (hp nx s) := by
  intro p l e s9 m args below meth c Fin cz hr hx hzz H locs ls hP hS hL
  have e9 := hp_zr hP (shC_lt hs) hn0
  exact c_newarr ty N hx9 hN hd hty hs hpr hlk hk hn rfl rfl rfl (by rw [e9]; exact kk) p l e s9 m args below meth c Fin cz hr hx hzz H locs ls hP hS hL
theorem x_getsDO {idx : Nat} (hd : decode (mB M) pc = .ok (.getstatic idx, 3)) (hlk : Cond.fieldLink (mY M).cls idx "java/lang/Integer" "DigitOnes" "[B" ∈ lw_all) (kk : ww C M d mc ms ne Qr Qx nx k n (pc + 3) lv (.ref 1901 :: st) h) : ww C M d mc ms ne Qr Qx nx k n pc lv st h := by
  intro p l e s9 m args below meth c Fin cz hr hx hzz H locs ls hP hS hL
  have h9 := kk p l e s9 m args below meth c Fin cz hr hx hzz H locs ls hP hS hL
  rw [List.map_cons, up_ref, ad_ge (by omega)] at h9
  exact va_gets (A := xAl C) (v := .ref (xO C 1901)) cz.1.1 cz.1.2.1 cz.2.2.2.1.2.2.2.2.1.1 hS cz.1.2.2.2.2 (cz.2.1 _ hlk) (fun _ z => z) hd h9
theorem x_DOld {i : Int} (hi : 0 ≤ i ∧ i < 100) (hd : decode (mB M) pc = .ok (.baload, 1)) (kk : ww C M d mc ms ne Qr Qx nx k n (pc + 1) lv (vi (48 + (i.toNat % 10 : Nat)) :: st) h) : ww C M d mc ms ne Qr Qx nx k n pc lv (vi i :: .ref 1901 :: st) h := by
  intro p l e s9 m args below meth c Fin cz hr hx hzz H locs ls hP hS hL
  show W p l e _ s9 m args below meth c H locs k n Fin (F0 m pc ls (.int (Int32.ofInt i) :: .ref (ad C 1901) :: st.map (up C)))
  rw [ad_ge (by omega)]
  obtain ⟨h1, h2⟩ := ix_v (m1 := 100) hi (by decide)
  exact va_tb (v := .int (Int32.ofInt (48 + (i.toNat % 10 : Nat)))) cz.1.1 cz.1.2.1 cz.2.2.2.1.2.2.2.2.1.2 hS h1 (by rw [h2]) hd (kk p l e s9 m args below meth c Fin cz hr hx hzz H locs ls hP hS hL)
end NX
/-! ===== the builder's state ===== -/
def cpo (c : Nat) : Nat := if c = 0 then 22 else if c = 1 then 46 else 94
def cof (n : Nat) : Nat := if n ≤ 22 then 0 else if n ≤ 46 then 1 else 2
theorem cpo_le (c : Nat) : cpo c ≤ 94 := by unfold cpo; split; · decide
                                            split <;> decide
theorem cof_le (n : Nat) : cof n ≤ 2 := by unfold cof; split; · decide
                                           split <;> decide
theorem cof_mono {a b : Nat} (h : a ≤ b) : cof a ≤ cof b := by
  unfold cof
  by_cases h1 : a ≤ 22
  · rw [if_pos h1]; omega
  · rw [if_neg h1, if_neg (show ¬ b ≤ 22 by omega)]
    by_cases h2 : a ≤ 46
    · rw [if_pos h2]; split <;> omega
    · rw [if_neg h2, if_neg (show ¬ b ≤ 46 by omega)]; exact Nat.le_refl _
theorem cof_cpo {n : Nat} (h : n ≤ 94) : n ≤ cpo (cof n) := by
  unfold cof
  by_cases h1 : n ≤ 22
  · rw [if_pos h1]; exact h1
  · rw [if_neg h1]
    by_cases h2 : n ≤ 46
    · rw [if_pos h2]; exact h2
    · rw [if_neg h2]; exact h
theorem cof_step {n m : Nat} (h1 : n ≤ m) (h2 : m ≤ n + 12) (h3 : m ≤ 94) : (cof m = cof n ∧ m ≤ cpo (cof n)) ∨ (cof m = cof n + 1 ∧ cpo (cof n) < m ∧ m ≤ cpo (cof n) + (cpo (cof n) + 2) ∧ cpo (cof m) = cpo (cof n) + (cpo (cof n) + 2)) := by
  have hm := cof_cpo h3
  by_cases a1 : n ≤ 22
  · have e : cof n = 0 := if_pos a1
    by_cases a2 : m ≤ 22
    · have e2 : cof m = 0 := if_pos a2
      rw [e, e2]; exact Or.inl ⟨rfl, a2⟩
    · have e2 : cof m = 1 := by unfold cof; rw [if_neg a2, if_pos (by omega)]
      rw [e, e2]; exact Or.inr ⟨rfl, by show 22 < m; omega, by show m ≤ 22 + (22 + 2); omega, rfl⟩
  · by_cases a3 : n ≤ 46
    · have e : cof n = 1 := by unfold cof; rw [if_neg a1, if_pos a3]
      by_cases a2 : m ≤ 46
      · have e2 : cof m = 1 := by unfold cof; rw [if_neg (by omega), if_pos a2]
        rw [e, e2]; exact Or.inl ⟨rfl, a2⟩
      · have e2 : cof m = 2 := by unfold cof; rw [if_neg (by omega), if_neg a2]
        rw [e, e2]; exact Or.inr ⟨rfl, by show 46 < m; omega, by show m ≤ 46 + (46 + 2); omega, rfl⟩
    · have e : cof n = 2 := by unfold cof; rw [if_neg a1, if_neg a3]
      have e2 : cof m = 2 := by unfold cof; rw [if_neg (by omega), if_neg (by omega)]
      rw [e, e2]; exact Or.inl ⟨rfl, h3⟩
/-- what has been written: class of the row's size, signs -/
def SBk (s : Sg) (c : Nat) (L : List Int) : Prop := gd s 81 0 = 82 + c ∧ gi s 81 1 = 0 ∧ gi s 81 3 = (L.length : Int) ∧ (∀ j, j < L.length → gi s (82 + c) j = L.getD j 0) ∧ L.length ≤ cpo c ∧ ∀ j, j < cpo c → -128 ≤ gi s (82 + c) j ∧ gi s (82 + c) j < 128
/-- untouched: what is not the builder's -/
def FrS (c : Nat) (s s' : Sg) : Prop := ∀ a, (a ≤ 80 ∨ 83 + c ≤ a) → gi s' a = gi s a ∧ gl s' a = gl s a ∧ gd s' a = gd s a
theorem FrS.rf {c : Nat} {s : Sg} : FrS c s s := fun _ _ => ⟨rfl, rfl, rfl⟩
theorem FrS.tr {c c' : Nat} {s s' s2 : Sg} (h : FrS c s s') (hc : c ≤ c') (h' : FrS c' s' s2) : FrS c' s s2 := fun a ha => by
  obtain ⟨a1, a2, a3⟩ := h a (by omega)
  obtain ⟨b1, b2, b3⟩ := h' a ha
  exact ⟨b1.trans a1, b2.trans a2, b3.trans a3⟩
def SHN (C : Cx) (c : Nat) : Prop := shC C 81 = some (.inl 13) ∧ ∀ i, i ≤ c → shC C (82 + i) = some (.inr (.byte, cpo i))
theorem SHN.le {C : Cx} {c c' : Nat} (h : SHN C c') (hc : c ≤ c') : SHN C c := ⟨h.1, fun i hi => h.2 i (by omega)⟩
theorem nk_byte : Cond.arrayClass .byte ∈ lw_all := (lw_all_mem (List.mem_append_right _ (List.mem_of_getElem? (i := 580) (by decide +kernel))) (by decide +kernel))
theorem ljJ8_194 {M : Mk} (h : (mY M).cls = RJ8) : Cond.methodLink (mY M).cls 194 Lib.Math.max.name ∈ lw_all ∧ Cond.static Lib.Math.max.name ∈ lw_all ∧ Cond.initialized "java/lang/Math" ∈ lw_all ∧ Cond.code Lib.Math.max.name Lib.Math.max.code 2 (some .int) ∈ lw_all := ⟨by rw [h]; exact (lw_all_mem (List.mem_append_right _ (List.mem_of_getElem? (i := 481) (by decide +kernel))) (by decide +kernel)), (lw_all_mem (List.mem_append_right _ (List.mem_of_getElem? (i := 156) (by decide +kernel))) (by decide +kernel)), (lw_all_mem (List.mem_append_right _ (List.mem_of_getElem? (i := 7) (by decide +kernel))) (by decide +kernel)), (lw_all_mem (List.mem_append_right _ (List.mem_of_getElem? (i := 157) (by decide +kernel))) (by decide +kernel))⟩
theorem ckJ8_200 {M : Mk} (h : (mY M).cls = RJ8) : Cond.constant (mY M).cls 200 (Int32.ofInt 2147483639) ∈ lw_all := by rw [h]; exact (lw_all_mem (List.mem_append_right _ (List.mem_of_getElem? (i := 482) (by decide +kernel))) (by decide +kernel))
theorem ljJ5_114 {M : Mk} (h : (mY M).cls = RJ5) : LKT M MJ_nwl 114 3 := ⟨lk0J_nwl, by rw [h]; exact (lw_all_mem (List.mem_append_right _ (List.mem_of_getElem? (i := 478) (by decide +kernel))) (by decide +kernel)), (lw_all_mem (List.mem_append_right _ (List.mem_of_getElem? (i := 479) (by decide +kernel))) (by decide +kernel))⟩
theorem ckJ5_39 {M : Mk} (h : (mY M).cls = RJ5) : Cond.constant (mY M).cls 39 (Int32.ofInt 2147483647) ∈ lw_all := by rw [h]; exact (lw_all_mem (List.mem_append_right _ (List.mem_of_getElem? (i := 444) (by decide +kernel))) (by decide +kernel))
theorem ljJ7_304 {M : Mk} (h : (mY M).cls = RJ7) : Cond.methodLink (mY M).cls 304 Lib.Math.min.name ∈ lw_all ∧ Cond.static Lib.Math.min.name ∈ lw_all ∧ Cond.initialized "java/lang/Math" ∈ lw_all ∧ Cond.code Lib.Math.min.name Lib.Math.min.code 2 (some .int) ∈ lw_all := ⟨by rw [h]; exact (lw_all_mem (List.mem_append_right _ (List.mem_of_getElem? (i := 496) (by decide +kernel))) (by decide +kernel)), (lw_all_mem (List.mem_append_right _ (List.mem_of_getElem? (i := 497) (by decide +kernel))) (by decide +kernel)), (lw_all_mem (List.mem_append_right _ (List.mem_of_getElem? (i := 7) (by decide +kernel))) (by decide +kernel)), (lw_all_mem (List.mem_append_right _ (List.mem_of_getElem? (i := 498) (by decide +kernel))) (by decide +kernel))⟩
theorem ljJ7_150 {M : Mk} (h : (mY M).cls = RJ7) : Cond.methodLink (mY M).cls 150 arraycopyName ∈ lw_all ∧ Cond.native arraycopyName ∈ lw_all ∧ Cond.static arraycopyName ∈ lw_all ∧ Cond.initialized "java/lang/System" ∈ lw_all := ⟨by rw [h]; exact (lw_all_mem (List.mem_append_right _ (List.mem_of_getElem? (i := 499) (by decide +kernel))) (by decide +kernel)), (lw_all_mem (List.mem_append_right _ (List.mem_of_getElem? (i := 501) (by decide +kernel))) (by decide +kernel)), (lw_all_mem (List.mem_append_right _ (List.mem_of_getElem? (i := 500) (by decide +kernel))) (by decide +kernel)), (lw_all_mem (List.mem_append_right _ (List.mem_of_getElem? (i := 20) (by decide +kernel))) (by decide +kernel))⟩
theorem ljJ5_104 {M : Mk} (h : (mY M).cls = RJ5) : LKU M MJ_cap 104 1 yJ5_newCapacity_0f7a4 := ⟨lk0J_cap, ⟨by decide +kernel, by decide +kernel, by decide +kernel⟩, by rw [h]; exact (lw_all_mem (List.mem_append_right _ (List.mem_of_getElem? (i := 474) (by decide +kernel))) (by decide +kernel)), (lw_all_mem (List.mem_append_right _ (List.mem_of_getElem? (i := 1426) (by decide +kernel))) (by decide +kernel)), ⟨(lw_all_mem (List.mem_append_right _ (List.mem_of_getElem? (i := 476) (by decide +kernel))) (by decide +kernel)), _, _, _, cw_cap⟩, lw_all_sel (List.mem_of_getElem? (i := 1) rfl) (by decide +kernel), (lw_all_mem (List.mem_append_right _ (List.mem_of_getElem? (i := 476) (by decide +kernel))) (by decide +kernel))⟩
theorem ljJ5_108 {M : Mk} (h : (mY M).cls = RJ5) : LKT M MJ_cpO 108 2 := ⟨lk0J_cpO, by rw [h]; exact (lw_all_mem (List.mem_append_right _ (List.mem_of_getElem? (i := 486) (by decide +kernel))) (by decide +kernel)), (lw_all_mem (List.mem_append_right _ (List.mem_of_getElem? (i := 487) (by decide +kernel))) (by decide +kernel))⟩
set_option maxRecDepth 100000 in
theorem cJ_nwl {C : Cx} {nx : Nat} {s : Sg} {o q r : Int} (h : 0 ≤ o ∧ o ≤ 1000 ∧ 0 ≤ q ∧ q ≤ r ∧ r ≤ 1000 ∧ 0 < o + r) : mm C MJ_nwl 1 0 0 nx nx [vi o, vi q, vi r] (hp nx s) (QI nx s (o + r)) XF := by
  refine mm_of rfl rfl (Nat.le_of_ble_eq_true rfl) ?_
  show ww C MJ_nwl 1 0 0 nx _ XF nx 0 0 0 [(0, vi o), (1, vi q), (2, vi r)] [] (hp nx s)
  refine w_iload_n 0 dJ8_newLength_cabcc_0 rfl rfl ?_
  refine w_iload_n 1 dJ8_newLength_cabcc_1 rfl rfl ?_
  refine w_iload_n 2 dJ8_newLength_cabcc_2 rfl rfl ?_
  refine x_mmax (by unfold R; omega) (by unfold R; omega) dJ8_newLength_cabcc_3 (ljJ8_194 rfl) (by omega) (Nat.le_of_ble_eq_true rfl) (by omega) (by omega) ?_
  rw [show (max q r) = r from by omega]
  refine x_iadd dJ8_newLength_cabcc_6 ?_
  refine w_istore_n (lv' := [(3, vi (o + r)), (0, vi o), (1, vi q), (2, vi r)]) dJ8_newLength_cabcc_7 rfl (Nat.le_of_ble_eq_true rfl) rfl ?_
  refine x_iconst dJ8_newLength_cabcc_8 ?_
  refine w_iload_n 0 dJ8_newLength_cabcc_9 rfl rfl ?_
  refine w_icmpge dJ8_newLength_cabcc_10 rfl (fun q => absurd q (fun e9 => absurd ((c32m (by unfold R; omega) (by unfold R; omega)).mp e9) (by omega))) (fun _ => ?_)
  refine w_iload_n 0 dJ8_newLength_cabcc_13 rfl rfl ?_
  refine xe_ldc1 2147483639 dJ8_newLength_cabcc_14 (ckJ8_200 rfl) ?_
  refine w_icmpgt dJ8_newLength_cabcc_16 rfl (fun q => absurd q (fun e9 => absurd ((c32l (by unfold R; omega) (by unfold R; omega)).mp e9) (by omega))) (fun _ => ?_)
  refine w_iload_n 0 dJ8_newLength_cabcc_19 rfl rfl ?_
  exact w_ireturn (ty := .int) rfl rfl dJ8_newLength_cabcc_20 rfl (Nat.le_of_ble_eq_true rfl) (Nat.le_of_ble_eq_true rfl) ⟨rfl, rfl⟩
set_option maxRecDepth 100000 in
theorem cJ_cap {C : Cx} {nx : Nat} {s : Sg} {b m n : Nat} (hsb : shC C 81 = some (.inl 13)) (h81 : 81 < nx) (h0 : gd s 81 0 = b) (h1 : gi s 81 1 = 0) (hb : b < nx) (hkb : KN ≤ b) (hbs : shC C b = some (.inr (.byte, m))) (hm : m < n ∧ n ≤ m + (m + 2) ∧ m ≤ 94) : mm C MJ_cap 2 0 0 nx nx [.ref 81, vi (n : Int)] (hp nx s) (QI nx s ((m : Int) + ((m : Int) + 2))) XF := by
  have hb0 : b ≠ 0 := by have : (80 : Nat) ≤ b := hkb; omega
  refine mm_of rfl rfl (Nat.le_of_ble_eq_true rfl) ?_
  show ww C MJ_cap 2 0 0 nx _ XF nx 0 0 0 [(0, .ref 81), (1, vi (n : Int))] [] (hp nx s)
  refine w_aload_n 0 dJ5_newCapacity_0f7a4_0 rfl rfl ?_
  refine xe_getR 13 0 (b := b) dJ5_newCapacity_0f7a4_1 (fjJ5_15_13 rfl) rfl hsb (by omega) (by decide) hb0 h0 ?_
  refine xe_blen dJ5_newCapacity_0f7a4_4 hbs hb ?_
  refine w_istore_n (lv' := [(2, vi (m : Int)), (0, .ref 81), (1, vi (n : Int))]) dJ5_newCapacity_0f7a4_5 rfl (Nat.le_of_ble_eq_true rfl) rfl ?_
  refine w_iload_n 2 dJ5_newCapacity_0f7a4_6 rfl rfl ?_
  refine w_aload_n 1 dJ5_newCapacity_0f7a4_7 rfl rfl ?_
  refine xe_getI 13 1 (x := 0) dJ5_newCapacity_0f7a4_8 (fjJ5_22_13 rfl) rfl hsb (by omega) h1 ?_
  refine x_ishl dJ5_newCapacity_0f7a4_11 ?_
  rw [ishl0 (by unfold R; omega)]
  refine w_istore_n (lv' := [(3, vi (n : Int)), (2, vi (m : Int)), (0, .ref 81), (1, vi (n : Int))]) dJ5_newCapacity_0f7a4_12 rfl (Nat.le_of_ble_eq_true rfl) rfl ?_
  refine w_iload_n 0 dJ5_newCapacity_0f7a4_13 rfl rfl ?_
  refine w_iload_n 1 dJ5_newCapacity_0f7a4_14 rfl rfl ?_
  refine x_isub dJ5_newCapacity_0f7a4_15 ?_
  refine w_istore (lv' := [(4, vi ((n : Int) - (m : Int))), (3, vi (n : Int)), (2, vi (m : Int)), (0, .ref 81), (1, vi (n : Int))]) dJ5_newCapacity_0f7a4_16 (Nat.le_of_ble_eq_true rfl) rfl ?_
  refine w_iload_n 2 dJ5_newCapacity_0f7a4_18 rfl rfl ?_
  refine w_iload 0 dJ5_newCapacity_0f7a4_19 rfl ?_
  refine w_iload_n 2 dJ5_newCapacity_0f7a4_21 rfl rfl ?_
  refine x_iconst dJ5_newCapacity_0f7a4_22 ?_
  refine w_aload_n 3 dJ5_newCapacity_0f7a4_23 rfl rfl ?_
  refine xe_getI 13 1 (x := 0) dJ5_newCapacity_0f7a4_24 (fjJ5_22_13 rfl) rfl hsb (by omega) h1 ?_
  refine x_ishl dJ5_newCapacity_0f7a4_27 ?_
  rw [ishl0 (by unfold R; omega)]
  refine x_iadd dJ5_newCapacity_0f7a4_28 ?_
  refine w_callT MJ_nwl [vi (m : Int), vi ((n : Int) - (m : Int)), vi ((m : Int) + 2)] (st := []) dJ5_newCapacity_0f7a4_29 (ljJ5_114 rfl) (Nat.le_of_ble_eq_true rfl) (by omega) (by omega) (Nat.le_of_ble_eq_true rfl) (cJ_nwl ⟨by omega, by omega, by omega, by omega, by omega, by omega⟩) XOK.no (fun v h' hq => ?_)
  obtain ⟨rfl, rfl⟩ := hq
  refine w_istore (lv' := [(5, vi ((m : Int) + ((m : Int) + 2))), (4, vi ((n : Int) - (m : Int))), (3, vi (n : Int)), (2, vi (m : Int)), (0, .ref 81), (1, vi (n : Int))]) dJ5_newCapacity_0f7a4_32 (Nat.le_of_ble_eq_true rfl) rfl ?_
  refine w_iload 0 dJ5_newCapacity_0f7a4_34 rfl ?_
  refine xe_ldc1 2147483647 dJ5_newCapacity_0f7a4_36 (ckJ5_39 rfl) ?_
  refine w_icmpne dJ5_newCapacity_0f7a4_38 rfl (fun _ => ?_) (fun q => absurd q (fun e9 => absurd ((c32e (by unfold R; omega) (by unfold R; omega)).mp e9) (by omega)))
  refine w_iload 0 dJ5_newCapacity_0f7a4_51 rfl ?_
  refine w_aload_n 4 dJ5_newCapacity_0f7a4_53 rfl rfl ?_
  refine xe_getI 13 1 (x := 0) dJ5_newCapacity_0f7a4_54 (fjJ5_22_13 rfl) rfl hsb (by omega) h1 ?_
  refine x_ishr dJ5_newCapacity_0f7a4_57 ?_
  rw [ishr0 (by unfold R; omega)]
  exact w_ireturn (ty := .int) rfl rfl dJ5_newCapacity_0f7a4_58 rfl (Nat.le_of_ble_eq_true rfl) (Nat.le_of_ble_eq_true rfl) ⟨rfl, rfl⟩
set_option maxRecDepth 100000 in
theorem cJ_cpO {C : Cx} {nx : Nat} {s : Sg} {b m0 m2 : Nat} (hn0 : KN ≤ nx) (hb : b < nx) (hbs : shC C b = some (.inr (.byte, m0))) (hds : shC C nx = some (.inr (.byte, m2))) (hm : m0 < m2 ∧ m2 ≤ 94) (hby9 : ∀ j, j < m0 → -128 ≤ gi s b j ∧ gi s b j < 128) : mm C MJ_cpO 1 1 m2 nx (nx + 1) [.ref b, vi (m2 : Int)] (hp nx s) (QA (nx + 1) (wr (zr s nx) nx 0 m0 (gi (zr s nx) b)) nx) XF := by
  have e1 := nat32 (x := m0) (by omega)
  have hby : ∀ j, j < m0 → -128 ≤ gi (zr s nx) b j ∧ gi (zr s nx) b j < 128 := fun j hj => by
    rw [gi_zr, if_neg (by omega)]
    exact hby9 j hj
  refine mm_of rfl rfl (Nat.le_of_ble_eq_true rfl) ?_
  show ww C MJ_cpO 1 1 m2 (nx + 1) _ XF nx 0 0 0 [(0, .ref b), (1, vi (m2 : Int))] [] (hp nx s)
  refine w_iload_n 1 dJ7_copyOf_9075b_0 rfl rfl ?_
  refine w_aload_n 0 dJ7_copyOf_9075b_1 rfl rfl ?_
  refine xe_blen dJ7_copyOf_9075b_2 hbs (by omega) ?_
  refine w_icmpne dJ7_copyOf_9075b_3 rfl (fun _ => ?_) (fun q => absurd q (fun e9 => absurd ((c32e (by unfold R; omega) (by unfold R; omega)).mp e9) (by omega)))
  refine w_iload_n 1 dJ7_copyOf_9075b_14 rfl rfl ?_
  refine xe_newa .byte m2 (by omega) (by omega) dJ7_copyOf_9075b_15 rfl hds (by omega) (by decide) nk_byte (by omega) (by omega) ?_
  refine w_astore_n (lv' := [(2, .ref nx), (0, .ref b), (1, vi (m2 : Int))]) dJ7_copyOf_9075b_17 rfl (Nat.le_of_ble_eq_true rfl) rfl ?_
  refine w_aload_n 1 dJ7_copyOf_9075b_18 rfl rfl ?_
  refine x_iconst dJ7_copyOf_9075b_19 ?_
  refine w_aload_n 0 dJ7_copyOf_9075b_20 rfl rfl ?_
  refine x_iconst dJ7_copyOf_9075b_21 ?_
  refine w_aload_n 1 dJ7_copyOf_9075b_22 rfl rfl ?_
  refine xe_blen dJ7_copyOf_9075b_23 hbs (by omega) ?_
  refine w_iload_n 2 dJ7_copyOf_9075b_24 rfl rfl ?_
  refine x_mmin (by unfold R; omega) (by unfold R; omega) dJ7_copyOf_9075b_25 (ljJ7_304 rfl) (by omega) (Nat.le_of_ble_eq_true rfl) (by omega) (by omega) ?_
  rw [show (min (m0 : Int) (m2 : Int)) = (m0 : Int) from by omega]
  refine w_copyG (t1 := 2) (ty := .byte) (n0 := m0) (f := gI (hp (nx + 1) (zr s nx)) b) (h' := hp (nx + 1) (wr (zr s nx) nx 0 m0 (gi (zr s nx) b))) (fun U H locs hSt hS hP => srcR_new (t1 := 2) hSt.1 hP hbs (by omega) rfl (Or.inr rfl)) rfl (Or.inr rfl) hds (by omega) (by decide) (by decide) e1.2 (by rw [e1.1]; show 0 + m0 ≤ _; omega) (by rw [e1.1]; show 0 + m0 ≤ _; omega) (fun i hi => ?_) dJ7_copyOf_9075b_28 (ljJ7_150 rfl) (Nat.le_of_ble_eq_true rfl) (Nat.le_of_ble_eq_true rfl) (fun q => ?_) (fun j hj k => ?_) rfl rfl rfl ?_
  · rw [e1.1] at hi
    rw [show (Int32.ofInt 0).toNatClampNeg = 0 by decide, Nat.zero_add]
    exact byt_fit (hby i hi)
  · rw [e1.1, show (Int32.ofInt 0).toNatClampNeg = 0 by decide]
    show Int32.ofInt (if nx = nx ∧ 0 ≤ q ∧ q < 0 + m0 then gi ((zr s nx)) b (q - 0) else gi ((zr s nx)) nx q) = (if 0 ≤ q ∧ q < 0 + m0 then Int32.ofInt (gi ((zr s nx)) b (0 + (q - 0))) else Int32.ofInt (gi ((zr s nx)) nx q))
    by_cases hq : 0 ≤ q ∧ q < 0 + m0
    · rw [if_pos ⟨rfl, hq⟩, if_pos hq, Nat.zero_add]
    · rw [if_neg (fun z => hq z.2), if_neg hq]
  · show Int32.ofInt (if j = nx ∧ 0 ≤ k ∧ k < 0 + m0 then gi ((zr s nx)) b (k - 0) else gi ((zr s nx)) j k) = Int32.ofInt (gi ((zr s nx)) j k)
    rw [if_neg (fun z => hj z.1)]
  refine w_aload_n 0 dJ7_copyOf_9075b_31 rfl rfl ?_
  exact w_areturn (ty := .array .byte) rfl rfl dJ7_copyOf_9075b_32 rfl (by omega) (by omega) ⟨rfl, rfl⟩
set_option maxRecDepth 100000 in
theorem cJ_ens0 {C : Cx} {nx : Nat} {s : Sg} {b m n mc ms : Nat} {Qr : Option Value → Hp → Prop} (hsb : shC C 81 = some (.inl 13)) (h81 : 81 < nx) (h0 : gd s 81 0 = b) (h1 : gi s 81 1 = 0) (hb : b < nx) (hkb : KN ≤ b) (hbs : shC C b = some (.inr (.byte, m))) (hm : n ≤ m ∧ m ≤ 94) (hQ : Qr none (hp nx s)) : mm C MJ_ens 3 mc ms nx nx [.ref 81, vi (n : Int)] (hp nx s) Qr XF := by
  have hb0 : b ≠ 0 := by have : (80 : Nat) ≤ b := hkb; omega
  refine mm_of rfl rfl (Nat.le_of_ble_eq_true rfl) ?_
  show ww C MJ_ens 3 mc ms nx _ XF nx 0 0 0 [(0, .ref 81), (1, vi (n : Int))] [] (hp nx s)
  refine w_aload_n 0 dJ5_ensureCapacityInternal_d00df_0 rfl rfl ?_
  refine xe_getR 13 0 (b := b) dJ5_ensureCapacityInternal_d00df_1 (fjJ5_15_13 rfl) rfl hsb (by omega) (by decide) hb0 h0 ?_
  refine xe_blen dJ5_ensureCapacityInternal_d00df_4 hbs (by omega) ?_
  refine w_aload_n 0 dJ5_ensureCapacityInternal_d00df_5 rfl rfl ?_
  refine xe_getI 13 1 (x := 0) dJ5_ensureCapacityInternal_d00df_6 (fjJ5_22_13 rfl) rfl hsb (by omega) h1 ?_
  refine x_ishr dJ5_ensureCapacityInternal_d00df_9 ?_
  rw [ishr0 (by unfold R; omega)]
  refine w_istore_n (lv' := [(2, vi (m : Int)), (0, .ref 81), (1, vi (n : Int))]) dJ5_ensureCapacityInternal_d00df_10 rfl (Nat.le_of_ble_eq_true rfl) rfl ?_
  refine w_iload_n 2 dJ5_ensureCapacityInternal_d00df_11 rfl rfl ?_
  refine w_iload_n 0 dJ5_ensureCapacityInternal_d00df_12 rfl rfl ?_
  refine x_isub dJ5_ensureCapacityInternal_d00df_13 ?_
  refine w_ifle dJ5_ensureCapacityInternal_d00df_14 rfl (fun _ => ?_) (fun q => absurd ((zLe (by unfold R; omega)).mpr (by omega)) q)
  exact w_return rfl dJ5_ensureCapacityInternal_d00df_38 rfl (by omega) (by omega) hQ
set_option maxRecDepth 100000 in
theorem cJ_ens1 {C : Cx} {nx : Nat} {s : Sg} {b m n m2 mc ms : Nat} {Qr : Option Value → Hp → Prop} (hsb : shC C 81 = some (.inl 13)) (h81 : 81 < nx) (h0 : gd s 81 0 = b) (h1 : gi s 81 1 = 0) (hb : b < nx) (hkb : KN ≤ b) (hbs : shC C b = some (.inr (.byte, m))) (hn0 : KN ≤ nx) (hds : shC C nx = some (.inr (.byte, m2))) (hm : m < n ∧ n ≤ m + (m + 2) ∧ m2 = m + (m + 2) ∧ m2 ≤ 94) (hby9 : ∀ j, j < m → -128 ≤ gi s b j ∧ gi s b j < 128) (hmc : 1 ≤ mc) (hms : m2 ≤ ms) (hQ : Qr none (hp (nx + 1) (sd (wr (zr s nx) nx 0 m (gi (zr s nx) b)) 81 0 nx))) : mm C MJ_ens 3 mc ms nx (nx + 1) [.ref 81, vi (n : Int)] (hp nx s) Qr XF := by
  have hb0 : b ≠ 0 := by have : (80 : Nat) ≤ b := hkb; omega
  refine mm_of rfl rfl (Nat.le_of_ble_eq_true rfl) ?_
  show ww C MJ_ens 3 mc ms (nx + 1) _ XF nx 0 0 0 [(0, .ref 81), (1, vi (n : Int))] [] (hp nx s)
  refine w_aload_n 0 dJ5_ensureCapacityInternal_d00df_0 rfl rfl ?_
  refine xe_getR 13 0 (b := b) dJ5_ensureCapacityInternal_d00df_1 (fjJ5_15_13 rfl) rfl hsb (by omega) (by decide) hb0 h0 ?_
  refine xe_blen dJ5_ensureCapacityInternal_d00df_4 hbs (by omega) ?_
  refine w_aload_n 0 dJ5_ensureCapacityInternal_d00df_5 rfl rfl ?_
  refine xe_getI 13 1 (x := 0) dJ5_ensureCapacityInternal_d00df_6 (fjJ5_22_13 rfl) rfl hsb (by omega) h1 ?_
  refine x_ishr dJ5_ensureCapacityInternal_d00df_9 ?_
  rw [ishr0 (by unfold R; omega)]
  refine w_istore_n (lv' := [(2, vi (m : Int)), (0, .ref 81), (1, vi (n : Int))]) dJ5_ensureCapacityInternal_d00df_10 rfl (Nat.le_of_ble_eq_true rfl) rfl ?_
  refine w_iload_n 2 dJ5_ensureCapacityInternal_d00df_11 rfl rfl ?_
  refine w_iload_n 0 dJ5_ensureCapacityInternal_d00df_12 rfl rfl ?_
  refine x_isub dJ5_ensureCapacityInternal_d00df_13 ?_
  refine w_ifle dJ5_ensureCapacityInternal_d00df_14 rfl (fun q => absurd q (fun e9 => absurd ((zLe (by unfold R; omega)).mp e9) (by omega))) (fun _ => ?_)
  refine w_aload_n 1 dJ5_ensureCapacityInternal_d00df_17 rfl rfl ?_
  refine w_aload_n 1 dJ5_ensureCapacityInternal_d00df_18 rfl rfl ?_
  refine xe_getR 13 0 (b := b) dJ5_ensureCapacityInternal_d00df_19 (fjJ5_15_13 rfl) rfl hsb (by omega) (by decide) hb0 h0 ?_
  refine w_aload_n 1 dJ5_ensureCapacityInternal_d00df_22 rfl rfl ?_
  refine w_iload_n 2 dJ5_ensureCapacityInternal_d00df_23 rfl rfl ?_
  refine w_callU MJ_cap yJ5_newCapacity_0f7a4 [vi (n : Int)] (st := [.ref b, .ref 81]) dJ5_ensureCapacityInternal_d00df_24 (ljJ5_104 rfl) (by omega) hsb (Nat.le_of_ble_eq_true rfl) (by omega) (by omega) (Nat.le_of_ble_eq_true rfl) (cJ_cap hsb h81 h0 h1 hb hkb hbs ⟨by omega, by omega, by omega⟩) (fun v h' hq => ?_)
  obtain ⟨rfl, rfl⟩ := hq
  refine w_aload_n 1 dJ5_ensureCapacityInternal_d00df_27 rfl rfl ?_
  refine xe_getI 13 1 (x := 0) dJ5_ensureCapacityInternal_d00df_28 (fjJ5_22_13 rfl) rfl hsb (by omega) h1 ?_
  refine x_ishl dJ5_ensureCapacityInternal_d00df_31 ?_
  rw [ishl0 (by unfold R; omega)]
  rw [show ((m : Int) + ((m : Int) + 2)) = (m2 : Int) from by omega]
  refine w_callT MJ_cpO [.ref b, vi (m2 : Int)] (st := [.ref 81]) dJ5_ensureCapacityInternal_d00df_32 (ljJ5_108 rfl) (Nat.le_of_ble_eq_true rfl) (by omega) (by omega) (Nat.le_of_ble_eq_true rfl) (cJ_cpO hn0 hb hbs hds ⟨by omega, by omega⟩ hby9) XOK.no (fun v h' hq => ?_)
  obtain ⟨rfl, rfl⟩ := hq
  refine xe_putR 13 0 dJ5_ensureCapacityInternal_d00df_35 (pofjJ5_15_13 rfl) rfl hsb (by omega) (by decide) (by omega) ?_
  exact w_return rfl dJ5_ensureCapacityInternal_d00df_38 rfl (by omega) (by omega) hQ
theorem cJ_ens {C : Cx} {s : Sg} {c n : Nat} {L : List Int} (hB : SBk s c L) (hc : c = cof L.length) (h1 : L.length ≤ n) (h2 : n ≤ L.length + 12) (h3 : n ≤ 94) (hN : SHN C (cof n)) : mm C MJ_ens 3 1 94 (83 + c) (83 + cof n) [.ref 81, vi (n : Int)] (hp (83 + c) s) (fun v h' => v = none ∧ ∃ s', h' = hp (83 + cof n) s' ∧ SBk s' (cof n) L ∧ FrS (cof n) s s') XF := by
  have hcl := cof_mono h1
  have hk : KN = 80 := rfl
  obtain ⟨b1, b2, b3, b4, b5, b6⟩ := hB
  have hsb := hN.1
  rw [← hc] at hcl
  have hbs := hN.2 c hcl
  have hp94 := cpo_le c
  rcases cof_step h1 h2 h3 with ⟨e1, e2⟩ | ⟨e1, e2, e3, e4⟩
  · rw [e1, ← hc]
    rw [← hc] at e2
    exact cJ_ens0 hsb (by omega) b1 b2 (by omega) (by omega) hbs ⟨e2, hp94⟩ ⟨rfl, s, rfl, ⟨b1, b2, b3, b4, b5, b6⟩, FrS.rf⟩
  · rw [← hc] at e1 e2 e3 e4
    have hds := hN.2 (c + 1) (by omega)
    have hp95 := cpo_le (c + 1)
    rw [e1] at e4 ⊢
    rw [show 83 + (c + 1) = (83 + c) + 1 by omega]
    refine cJ_ens1 (m2 := cpo (c + 1)) hsb (by omega) b1 b2 (by omega) (by omega) hbs (by omega) (by rw [show 83 + c = 82 + (c + 1) by omega]; exact hds) ⟨e2, e3, e4, hp95⟩ b6 (by omega) hp95 ⟨rfl, _, rfl, ⟨?_, ?_, ?_, ?_, ?_, ?_⟩, ?_⟩
    · show (if 81 = 81 ∧ 0 = 0 then 83 + c else gd (zr s (83 + c)) 81 0) = 82 + (c + 1)
      rw [if_pos ⟨rfl, rfl⟩]; omega
    · show (if 81 = 83 + c ∧ _ then _ else (if 81 = 83 + c then 0 else gi s 81 1)) = 0
      rw [if_neg (by omega), if_neg (by omega)]; exact b2
    · show (if 81 = 83 + c ∧ _ then _ else (if 81 = 83 + c then 0 else gi s 81 3)) = _
      rw [if_neg (by omega), if_neg (by omega)]; exact b3
    · intro j hj
      show (if 82 + (c + 1) = 83 + c ∧ 0 ≤ j ∧ j < 0 + cpo c then gi (zr s (83 + c)) (82 + c) (j - 0) else _) = _
      rw [if_pos ⟨by omega, by omega, by omega⟩, gi_zr, if_neg (by omega)]
      exact b4 j hj
    · omega
    · intro j hj
      show -128 ≤ (if 82 + (c + 1) = 83 + c ∧ 0 ≤ j ∧ j < 0 + cpo c then gi (zr s (83 + c)) (82 + c) (j - 0) else gi (zr s (83 + c)) (82 + (c + 1)) j) ∧ (if 82 + (c + 1) = 83 + c ∧ 0 ≤ j ∧ j < 0 + cpo c then gi (zr s (83 + c)) (82 + c) (j - 0) else gi (zr s (83 + c)) (82 + (c + 1)) j) < 128
      by_cases hj2 : j < cpo c
      · rw [if_pos ⟨by omega, by omega, by omega⟩, gi_zr, if_neg (by omega)]
        exact b6 _ (by omega)
      · rw [if_neg (by omega), gi_zr, if_pos (by omega)]
        decide
    · intro a ha
      refine ⟨funext fun j => ?_, funext fun j => ?_, funext fun j => ?_⟩
      · show (if a = 83 + c ∧ _ then _ else (if a = 83 + c then 0 else gi s a j)) = gi s a j
        rw [if_neg (by omega), if_neg (by omega)]
      · show (if a = 83 + c then 0 else gl s a j) = gl s a j
        rw [if_neg (by omega)]
      · show (if a = 81 ∧ j = 0 then _ else (if a = 83 + c then 0 else gd s a j)) = gd s a j
        rw [if_neg (by omega), if_neg (by omega)]

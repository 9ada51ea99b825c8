/-! ===== a row's copy ===== -/
theorem HPh_newx {C : Cx} {nx : Nat} {h h' : Hp} {H H1 : Heap} (hP : HPh C nx h H) (hK : nx < KC C) (hz : H1.size = H.size + 1) (ho : ∀ q, q < H.size → H1[q]? = H[q]?) (he : ∀ i, i ≠ nx → ∀ q, gI h' i q = gI h i q ∧ gR h' i q = gR h i q ∧ gL h' i q = gL h i q ∧ gD h' i q = gD h i q) (hat : va_at (xD C) vwCl (xB C + nx, ce C h' nx) H1) : HPh C (nx + 1) h' H1 := by
  obtain ⟨p1, p2, p3, p4, p5, p6⟩ := hP
  have h9 : nx < 1000 := Nat.lt_of_lt_of_le hK p5.2.1
  refine ⟨fun k q hk => ?_, fun i hi j => by rw [(he i (by omega) j).1]; exact p2 i hi j, by omega, by omega, ⟨hK, p5.2⟩, fun i h1 h2 j => ?_⟩
  · have hl : k < nx + 1 := by have := (List.getElem?_eq_some_iff.mp hk).1; rwa [wl_len] at this
    rw [wl_at C (nx + 1) h' hl] at hk
    cases hk
    by_cases hkn : k = nx
    · subst hkn; exact hat
    · have h0 := p1 k _ (wl_at C nx h (by omega : k < nx))
      rw [ce_congr C h h' k (fun q => (he k hkn q).1) (fun q => (he k hkn q).2.1) (fun q => (he k hkn q).2.2.1) (fun q => (he k hkn q).2.2.2)]
      exact h0.kept (ho _ (by have := h0.lt; exact this))
  · obtain ⟨a1, a2, a3, a4⟩ := he i (by omega) j
    rw [a1, a2, a3, a4]
    exact p6 i (by omega) h2 j
section CLX
variable {C : Cx} {M : Mk} {d mc ms ne : Nat} {Qr : Option Value → Hp → Prop} {Qx : String → Hp → Prop} {nx k n pc : Nat} {lv lv' : List (Nat × Value)} {st stk : List Value} {h : Hp} {s : Sg}
theorem arrV_ext {cI : ClassId} {N : Nat} {f g : Nat → Value} (h : ∀ j, j < N → f j = g j) : arrV cI N f = arrV cI N g := by
  unfold arrV
  congr 1
  refine Array.ext (by simp) fun i h1 h2 => ?_
  simp at h1 h2 ⊢
  exact h i h1
theorem byCls {C : Cx} {U : State} (hK : va_K (xD C) vwCl (tyl C) U) : U.vm.findClass "[B" = some (xA C .byte) := (hK.2 2 _ rfl).2
theorem xe_clone {a m idx : Nat} (hd : decode (mB M) pc = .ok (.invokevirtual idx, 3)) (hlk : Cond.methodLink (mY M).cls idx ⟨"[B", "clone", "()Ljava/lang/Object;"⟩ ∈ lw_all ∧ Cond.sameMethod "[B" "java/lang/Object" "clone" "()Ljava/lang/Object;" ∈ lw_all ∧ Cond.native ⟨"java/lang/Object", "clone", "()Ljava/lang/Object;"⟩ ∈ lw_all ∧ Cond.instanceMethod ⟨"java/lang/Object", "clone", "()Ljava/lang/Object;"⟩ ∈ lw_all ∧ Cond.selects "[B" ⟨"[B", "clone", "()Ljava/lang/Object;"⟩ ⟨"java/lang/Object", "clone", "()Ljava/lang/Object;"⟩ ∈ lw_all) (hcl : Cond.castable "[B" "java/lang/Cloneable" ∈ nw_all) (hs : shC C a = some (.inr (.byte, m))) (ha : a < nx) (hs2 : shC C nx = some (.inr (.byte, m))) (hn0 : KN ≤ nx) (hfit : ∀ j, j < m → -128 ≤ gi s a j ∧ gi s a j < 128) (hdd : 1 ≤ d) (hw : (st.map fun v => v.category).sum ≤ 8) (hk : k + 1 ≤ mc) (hn : n + m ≤ ms) (kk : ww C M d mc ms ne Qr Qx (nx + 1) (k + 1) (n + m) (pc + 3) lv (.ref nx :: st) (hp (nx + 1) (wr (zr s nx) nx 0 m (gi s a)))) : ww C M d mc ms ne Qr Qx nx k n pc lv (.ref a :: st) (hp nx s) := by
  intro p l e s9 m9 args below meth c Fin cz hr hx hzz H locs ls hP hS hL
  have hK := shC_lt hs2
  have hsz := hP.2.2.2.1
  have h9k := Nat.lt_of_lt_of_le hK hP.2.2.2.2.1.2.1
  have hKK := cz.2.2.2.1.1
  show W p l e _ s9 m9 args below meth c H locs k n Fin (F0 m9 pc ls (.ref (ad C a) :: st.map (up C)))
  rw [show ad C a = xB C + a from ad_l9 (hP9 hP ha)]
  have hc : H[xB C + a]? = some (arrV (xA C .byte) m (fun j => .int (gI (hp nx s) a j))) := by
    have h9 := hP.1 a _ (wl_at C nx (hp nx s) ha)
    rw [ce_arrC C (hp nx s) hs] at h9
    exact h9
  have hBc := byCls hKK
  obtain ⟨-, kS, hkS, compS, hkindS⟩ := (hKK.2 2 _ rfl).1 0 (fun _ => .null)
  obtain ⟨c0, t0, f1, f2, f3⟩ := Cond.castable_spec (va_Nw.use (A := args) rfl (cz.2.2.2.1.2.1 _ hcl))
  cases hBc.symm.trans f1
  intro T hT X
  obtain ⟨-, kA, hkA, comp, hkind⟩ := State.isArrayOf_alike X.warmed.alike ((hKK.2 2 _ rfl).1 0 (fun _ => .null))
  obtain ⟨vm', X', step⟩ := X.cloneArray cz.1.1 cz.1.2.2.2.2 (cz.2.1 _ hlk.1) (cz.2.1 _ hlk.2.1) (cz.2.1 _ hlk.2.2.1) (cz.2.1 _ hlk.2.2.2.1) (cz.2.1 _ hlk.2.2.2.2) (a := xB C + a) (cell := arrV (xA C .byte) m (fun j => .int (gI (hp nx s) a j))) (by rw [hT]; exact hc) (fun _ z => by cases z) (fun z => by cases z) hBc f2 f3
    (fun i v hv => by
      have hi : i < m := by
        have := (Array.getElem?_eq_some_iff.mp hv).1
        rwa [arrV_size] at this
      rw [arrV_read _ _ hi] at hv
      cases hv
      have hk' : T.vm.classes[xA C .byte]? = some kA := hkA
      have hft : fits .byte (.int (gI (hp nx s) a i)) = true := byt_fit (hfit i hi)
      show T.fitsSlot (xA C .byte) .none i (Value.int (gI (hp nx s) a i)) = true
      simpa [State.fitsSlot, State.slotType?, hk', hkind] using hft)
    (g := F0 m9 pc ls (.ref (xB C + a) :: st.map (up C))) rfl (hL.1.trans cz.1.2.2.2.1.symm) rfl (by rw [cz.1.2.1]; exact hd) (by show 1 ≤ d; exact hdd) (by
      rw [up_sum]
      show 2 * 0 + _ + 14 ≤ 70 * d
      omega) (by show k + 1 ≤ mc; exact hk) (by rw [arrV_size]; exact hn) (hloader := Vm.clonesLoader_of_array hkS hkindS)
  rw [arrV_size] at X'
  generalize hH1 : H.push (arrV (xA C .byte) m (fun j => .int (gI (hp nx s) a j))) = H1
  have z1 : H1.size = H.size + 1 := by rw [← hH1, Array.size_push]
  have e1 : H1[H.size]? = some (arrV (xA C .byte) m (fun j => .int (gI (hp nx s) a j))) := by rw [← hH1, Array.getElem?_push_size]
  have o1 : ∀ q : Nat, q < H.size → H1[q]? = H[q]? := fun q hq => by rw [← hH1, Array.getElem?_push, if_neg (Nat.ne_of_lt hq)]
  have e9 := hp_zr hP hK hn0
  have hP1 : HPh C (nx + 1) (hp (nx + 1) (wr (zr s nx) nx 0 m (gi s a))) H1 := by
    rw [e9] at hP
    have hP0 : HPh C nx (hp (nx + 1) (zr s nx)) H := hP
    refine HPh_newx hP0 hK z1 o1 (fun i hi q => ⟨?_, rfl, rfl, rfl⟩) ?_
    · show Int32.ofInt (if i = nx ∧ 0 ≤ q ∧ q < 0 + m then gi s a (q - 0) else gi (zr s nx) i q) = Int32.ofInt (gi (zr s nx) i q)
      rw [if_neg (fun z => hi z.1)]
    · rw [ce_arrC C _ hs2, ← hsz]
      show H1[H.size]? = some (arrV (xA C .byte) m (fun j => .int (gI (hp (nx + 1) (wr (zr s nx) nx 0 m (gi s a))) nx j)))
      rw [e1]
      congr 1
      refine arrV_ext fun j hj => ?_
      show Value.int (Int32.ofInt (gi s a j)) = Value.int (Int32.ofInt (if nx = nx ∧ 0 ≤ j ∧ j < 0 + m then gi s a (j - 0) else gi (zr s nx) nx j))
      rw [if_pos ⟨rfl, Nat.zero_le _, by omega⟩]
      rfl
  have hS1 : va_S (xAl C) s9.heap H1 locs := ⟨Nat.le_trans hS.1 (by omega), fun x h1 h2 => (o1 x (Nat.lt_of_lt_of_le h1 hS.1)).trans (hS.2.1 x h1 h2), hS.2.2⟩
  have h9 := kk p l e s9 m9 args below meth c Fin cz hr hx hzz H1 locs ls hP1 hS1 hL
  rw [List.map_cons, up_ref, ad_l9 h9k, ← hsz] at h9
  have hheap : ((T.setVm vm').pushCell (arrV (xA C .byte) m (fun j => .int (gI (hp nx s) a j)))).heap = H1 := by rw [← hH1, ← hT]; rfl
  obtain ⟨t, a1, b1⟩ := h9 _ hheap X'
  refine ⟨t, step t ?_, b1⟩
  rw [hT]
  exact a1
theorem xe_castB {a m idx : Nat} (hd : decode (mB M) pc = .ok (.checkcast idx, 3)) (hlk : Cond.classLink (mY M).cls idx "[B" ∈ lw_all) (hs : shC C a = some (.inr (.byte, m))) (ha : a < nx) (kk : ww C M d mc ms ne Qr Qx nx k n (pc + 3) lv (.ref a :: st) h) : ww C M d mc ms ne Qr Qx nx k n pc lv (.ref a :: st) h := by
  intro p l e s9 m args below meth c Fin cz hr hx hzz H locs ls hP hS hL
  have h9 := kk p l e s9 m args below meth c Fin cz hr hx hzz H locs ls hP hS hL
  rw [List.map_cons, up_ref, ad_l9 (hP9 hP ha)] at h9 ⊢
  exact va_castA cz.1.1 cz.1.2.1 cz.1.2.2.2.2 (cz.2.1 _ hlk) hP.1 a (by rw [wl_at C nx h ha, ce_arrC C h hs]) (byCls cz.2.2.2.1.1) hd h9
end CLX
theorem ckl {M : Mk} (h : (mY M).cls = RJ7) : Cond.methodLink (mY M).cls 310 ⟨"[B", "clone", "()Ljava/lang/Object;"⟩ ∈ lw_all ∧ Cond.sameMethod "[B" "java/lang/Object" "clone" "()Ljava/lang/Object;" ∈ lw_all ∧ Cond.native ⟨"java/lang/Object", "clone", "()Ljava/lang/Object;"⟩ ∈ lw_all ∧ Cond.instanceMethod ⟨"java/lang/Object", "clone", "()Ljava/lang/Object;"⟩ ∈ lw_all ∧ Cond.selects "[B" ⟨"[B", "clone", "()Ljava/lang/Object;"⟩ ⟨"java/lang/Object", "clone", "()Ljava/lang/Object;"⟩ ∈ lw_all := ⟨by rw [h]; exact (lw_all_mem (List.mem_append_right _ (List.mem_of_getElem? (i := 489) (by decide +kernel))) (by decide +kernel)), (lw_all_mem (List.mem_append_right _ (List.mem_of_getElem? (i := 490) (by decide +kernel))) (by decide +kernel)), (lw_all_mem (List.mem_append_right _ (List.mem_of_getElem? (i := 491) (by decide +kernel))) (by decide +kernel)), (lw_all_mem (List.mem_append_right _ (List.mem_of_getElem? (i := 492) (by decide +kernel))) (by decide +kernel)), (lw_all_mem (List.mem_append_right _ (List.mem_of_getElem? (i := 493) (by decide +kernel))) (by decide +kernel))⟩
theorem ckc : Cond.castable "[B" "java/lang/Cloneable" ∈ nw_all := List.mem_filter.mpr ⟨(List.mem_of_getElem? (i := 494) (by decide +kernel)), rfl⟩
theorem ckb {M : Mk} (h : (mY M).cls = RJ7) : Cond.classLink (mY M).cls 311 "[B" ∈ lw_all := by rw [h]; exact (lw_all_mem (List.mem_append_right _ (List.mem_of_getElem? (i := 495) (by decide +kernel))) (by decide +kernel))
theorem ljJ7_343 {M : Mk} (h : (mY M).cls = RJ7) : LKT M MJ_chk 343 2 := ⟨lk0J_chk, by rw [h]; exact (lw_all_mem (List.mem_append_right _ (List.mem_of_getElem? (i := 668) (by decide +kernel))) (by decide +kernel)), (lw_all_mem (List.mem_append_right _ (List.mem_of_getElem? (i := 669) (by decide +kernel))) (by decide +kernel))⟩
theorem ljJ7_339 {M : Mk} (h : (mY M).cls = RJ7) : LKT M MJ_cpB 339 3 := ⟨lk0J_cpB, by rw [h]; exact (lw_all_mem (List.mem_append_right _ (List.mem_of_getElem? (i := 665) (by decide +kernel))) (by decide +kernel)), (lw_all_mem (List.mem_append_right _ (List.mem_of_getElem? (i := 666) (by decide +kernel))) (by decide +kernel))⟩
theorem okJ0_1 {M : Mk} (h : (mY M).cls = RJ0) : Cond.methodLink (mY M).cls 1 Lib.objectInit ∈ lw_all ∧ Cond.instanceMethod Lib.objectInit ∈ lw_all ∧ Cond.code Lib.objectInit ⟨#[0xb1]⟩ 1 none ∈ lw_all := ⟨by rw [h]; exact (lw_all_mem (List.mem_append_right _ (List.mem_of_getElem? (i := 647) (by decide +kernel))) (by decide +kernel)), (lw_all_mem (List.mem_append_right _ (List.mem_of_getElem? (i := 35) (by decide +kernel))) (by decide +kernel)), (lw_all_mem (List.mem_append_right _ (List.mem_of_getElem? (i := 36) (by decide +kernel))) (by decide +kernel))⟩
theorem ljJ0_552 {M : Mk} (h : (mY M).cls = RJ0) : LKU M MJ_aVal 552 0 yJ5_getValue_6d5f1 := ⟨lk0J_aVal, ⟨by decide +kernel, by decide +kernel, by decide +kernel⟩, by rw [h]; exact (lw_all_mem (List.mem_append_right _ (List.mem_of_getElem? (i := 648) (by decide +kernel))) (by decide +kernel)), (lw_all_mem (List.mem_append_right _ (List.mem_of_getElem? (i := 650) (by decide +kernel))) (by decide +kernel)), ⟨(lw_all_mem (List.mem_append_right _ (List.mem_of_getElem? (i := 649) (by decide +kernel))) (by decide +kernel)), _, _, _, cw_aVal⟩, (lw_all_mem (List.mem_append_right _ (List.mem_of_getElem? (i := 651) (by decide +kernel))) (by decide +kernel)), (lw_all_mem (List.mem_append_right _ (List.mem_of_getElem? (i := 649) (by decide +kernel))) (by decide +kernel))⟩
theorem ljJ0_549 {M : Mk} (h : (mY M).cls = RJ0) : LKU M MJ_sLen 549 0 yJ5_length_8abf5 := ⟨lk0J_sLen, ⟨by decide +kernel, by decide +kernel, by decide +kernel⟩, by rw [h]; exact (lw_all_mem (List.mem_append_right _ (List.mem_of_getElem? (i := 653) (by decide +kernel))) (by decide +kernel)), (lw_all_mem (List.mem_append_right _ (List.mem_of_getElem? (i := 655) (by decide +kernel))) (by decide +kernel)), ⟨(lw_all_mem (List.mem_append_right _ (List.mem_of_getElem? (i := 654) (by decide +kernel))) (by decide +kernel)), _, _, _, cw_aLen⟩, (lw_all_mem (List.mem_append_right _ (List.mem_of_getElem? (i := 656) (by decide +kernel))) (by decide +kernel)), (lw_all_mem (List.mem_append_right _ (List.mem_of_getElem? (i := 657) (by decide +kernel))) (by decide +kernel))⟩
theorem ljJ0_1047 {M : Mk} (h : (mY M).cls = RJ0) : LKU M MJ_aL1 1047 0 yJ5_isLatin1_aae02 := ⟨lk0J_aL1, ⟨by decide +kernel, by decide +kernel, by decide +kernel⟩, by rw [h]; exact (lw_all_mem (List.mem_append_right _ (List.mem_of_getElem? (i := 661) (by decide +kernel))) (by decide +kernel)), (lw_all_mem (List.mem_append_right _ (List.mem_of_getElem? (i := 504) (by decide +kernel))) (by decide +kernel)), ⟨(lw_all_mem (List.mem_append_right _ (List.mem_of_getElem? (i := 503) (by decide +kernel))) (by decide +kernel)), _, _, _, cw_aL1⟩, (lw_all_mem (List.mem_append_right _ (List.mem_of_getElem? (i := 505) (by decide +kernel))) (by decide +kernel)), (lw_all_mem (List.mem_append_right _ (List.mem_of_getElem? (i := 503) (by decide +kernel))) (by decide +kernel))⟩
theorem fjJ0_15_12 {M : Mk} (h : (mY M).cls = RJ0) : FL M 15 12 1 := ⟨by rw [h]; exact (lw_all_mem (List.mem_append_right _ (List.mem_of_getElem? (i := 685) (by decide +kernel))) (by decide +kernel)), by decide⟩
theorem pofjJ0_15_12 {M : Mk} (h : (mY M).cls = RJ0) (hi : (mY M).name = "<init>") : putOK M 15 12 1 := Or.inl ⟨fjJ0_15_12 h, Or.inr ⟨rfl, hi, by rw [h]; rfl⟩⟩
theorem ljJ0_54 {M : Mk} (h : (mY M).cls = RJ0) : LKT M MJ_cpR 54 3 := ⟨lk0J_cpR, by rw [h]; exact (lw_all_mem (List.mem_append_right _ (List.mem_of_getElem? (i := 662) (by decide +kernel))) (by decide +kernel)), (lw_all_mem (List.mem_append_right _ (List.mem_of_getElem? (i := 663) (by decide +kernel))) (by decide +kernel))⟩
theorem fjJ0_9_12 {M : Mk} (h : (mY M).cls = RJ0) : FL M 9 12 0 := ⟨by rw [h]; exact (lw_all_mem (List.mem_append_right _ (List.mem_of_getElem? (i := 684) (by decide +kernel))) (by decide +kernel)), by decide⟩
theorem pofjJ0_9_12 {M : Mk} (h : (mY M).cls = RJ0) (hi : (mY M).name = "<init>") : putOK M 9 12 0 := Or.inl ⟨fjJ0_9_12 h, Or.inr ⟨rfl, hi, by rw [h]; rfl⟩⟩
theorem ljJ0_489 {M : Mk} (h : (mY M).cls = RJ0) : LKI M MJ_nA 489 2 := ⟨lk0J_nA, by rw [h]; exact (lw_all_mem (List.mem_append_right _ (List.mem_of_getElem? (i := 644) (by decide +kernel))) (by decide +kernel)), (lw_all_mem (List.mem_append_right _ (List.mem_of_getElem? (i := 645) (by decide +kernel))) (by decide +kernel)), rfl, rfl⟩
theorem nkJ4_18 {M : Mk} (h : (mY M).cls = RJ4) : Cond.classLink (mY M).cls 18 (cR 12) ∈ lw_all ∧ Cond.instantiable (cR 12) (cn 12) ∈ lw_all ∧ Cond.initialized (cR 12) ∈ lw_all := ⟨by rw [h]; exact (lw_all_mem (List.mem_append_right _ (List.mem_of_getElem? (i := 639) (by decide +kernel))) (by decide +kernel)), (lw_all_mem (List.mem_append_right _ (List.mem_of_getElem? (i := 640) (by decide +kernel))) (by decide +kernel)), (lw_all_mem (List.mem_append_right _ (List.mem_of_getElem? (i := 16) (by decide +kernel))) (by decide +kernel))⟩
theorem ljJ4_137 {M : Mk} (h : (mY M).cls = RJ4) : LKI M MJ_nS 137 1 := ⟨lk0J_nS, by rw [h]; exact (lw_all_mem (List.mem_append_right _ (List.mem_of_getElem? (i := 641) (by decide +kernel))) (by decide +kernel)), (lw_all_mem (List.mem_append_right _ (List.mem_of_getElem? (i := 642) (by decide +kernel))) (by decide +kernel)), rfl, rfl⟩
set_option maxRecDepth 100000 in
theorem cJ_chk {C : Cx} {nx : Nat} {s : Sg} {x y : Int} (hx : R x ∧ R y ∧ x ≤ y) : mm C MJ_chk 0 0 0 nx nx [vi x, vi y] (hp nx s) (QV nx s) XF := by
  have hx1 := hx.1
  have hx2 := hx.2.1
  unfold R at hx1 hx2
  have hx3 := hx.2.2
  refine mm_of rfl rfl (Nat.le_of_ble_eq_true rfl) ?_
  show ww C MJ_chk 0 0 0 nx _ XF nx 0 0 0 [(0, vi x), (1, vi y)] [] (hp nx s)
  refine w_iload_n 1 dJ7_checkLength_df160_0 rfl rfl ?_
  refine w_iload_n 0 dJ7_checkLength_df160_1 rfl rfl ?_
  refine w_icmpge dJ7_checkLength_df160_2 rfl (fun _ => ?_) (fun q => absurd ((c32m (by unfold R; omega) (by unfold R; omega)).mpr (by omega)) q)
  exact w_return rfl dJ7_checkLength_df160_37 rfl (by omega) (by omega) ⟨rfl, rfl⟩
set_option maxRecDepth 100000 in
theorem cJ_cpB {C : Cx} {nx : Nat} {s : Sg} {b m m0 : Nat} (hn0 : KN ≤ nx) (hb : b < nx) (hbs : shC C b = some (.inr (.byte, m))) (hds : shC C nx = some (.inr (.byte, m0))) (hm : m0 ≤ m ∧ m ≤ 94) (hby9 : ∀ j, j < m → -128 ≤ gi s b j ∧ gi s b j < 128) : mm C MJ_cpB 1 1 m0 nx (nx + 1) [.ref b, vi 0, vi (m0 : Int)] (hp nx s) (QA (nx + 1) (wr (zr s nx) nx 0 m0 (gi s b)) nx) XF := by
  have hz9 : gi (zr s nx) b = gi s b := funext fun j => by rw [gi_zr, if_neg (by omega)]
  have e1 := nat32 (x := m0) (by omega)
  have hby : ∀ j, j < m0 → -128 ≤ gi (zr s nx) b j ∧ gi (zr s nx) b j < 128 := fun j hj => by
    rw [hz9]
    exact hby9 j (by omega)
  refine mm_of rfl rfl (Nat.le_of_ble_eq_true rfl) ?_
  show ww C MJ_cpB 1 1 m0 (nx + 1) _ XF nx 0 0 0 [(0, .ref b), (1, vi 0), (2, vi (m0 : Int))] [] (hp nx s)
  refine w_iload_n 1 dJ7_copyOfRangeByte_39247_0 rfl rfl ?_
  refine w_iload_n 2 dJ7_copyOfRangeByte_39247_1 rfl rfl ?_
  refine w_callT MJ_chk [vi 0, vi (m0 : Int)] (st := []) dJ7_copyOfRangeByte_39247_2 (ljJ7_343 rfl) (Nat.le_of_ble_eq_true rfl) (by omega) (by omega) (Nat.le_of_ble_eq_true rfl) (cJ_chk ⟨by unfold R; omega, by unfold R; omega, by omega⟩) XOK.no (fun v h' hq => ?_)
  obtain ⟨rfl, rfl⟩ := hq
  refine w_iload_n 2 dJ7_copyOfRangeByte_39247_5 rfl rfl ?_
  refine w_iload_n 1 dJ7_copyOfRangeByte_39247_6 rfl rfl ?_
  refine x_isub dJ7_copyOfRangeByte_39247_7 ?_
  rw [show ((m0 : Int) - 0) = (m0 : Int) from by omega]
  refine w_istore_n (lv' := [(3, vi (m0 : Int)), (0, .ref b), (1, vi 0), (2, vi (m0 : Int))]) dJ7_copyOfRangeByte_39247_8 rfl (Nat.le_of_ble_eq_true rfl) rfl ?_
  refine w_iload_n 0 dJ7_copyOfRangeByte_39247_9 rfl rfl ?_
  refine xe_newa .byte m0 (by omega) (by omega) dJ7_copyOfRangeByte_39247_10 rfl hds (by omega) (by decide) nk_byte (by omega) (by omega) ?_
  refine w_astore (lv' := [(4, .ref nx), (3, vi (m0 : Int)), (0, .ref b), (1, vi 0), (2, vi (m0 : Int))]) dJ7_copyOfRangeByte_39247_12 (Nat.le_of_ble_eq_true rfl) rfl ?_
  refine w_aload_n 2 dJ7_copyOfRangeByte_39247_14 rfl rfl ?_
  refine w_iload_n 3 dJ7_copyOfRangeByte_39247_15 rfl rfl ?_
  refine w_aload 0 dJ7_copyOfRangeByte_39247_16 rfl ?_
  refine x_iconst dJ7_copyOfRangeByte_39247_18 ?_
  refine w_aload_n 2 dJ7_copyOfRangeByte_39247_19 rfl rfl ?_
  refine xe_blen dJ7_copyOfRangeByte_39247_20 hbs (by omega) ?_
  refine w_iload_n 3 dJ7_copyOfRangeByte_39247_21 rfl rfl ?_
  refine x_isub dJ7_copyOfRangeByte_39247_22 ?_
  rw [show ((m : Int) - 0) = (m : Int) from by omega]
  refine w_iload_n 1 dJ7_copyOfRangeByte_39247_23 rfl rfl ?_
  refine x_mmin (by unfold R; omega) (by unfold R; omega) dJ7_copyOfRangeByte_39247_24 (ljJ7_304 rfl) (by omega) (Nat.le_of_ble_eq_true rfl) (by omega) (by omega) ?_
  rw [show (min (m : Int) (m0 : Int)) = (m0 : Int) from by omega]
  refine w_copyG (t1 := 2) (ty := .byte) (n0 := m) (f := gI (hp (nx + 1) (zr s nx)) b) (h' := hp (nx + 1) (wr (zr s nx) nx 0 m0 (gi (zr s nx) b))) (fun U H locs hSt hS hP => srcR_new (t1 := 2) hSt.1 hP hbs (by omega) rfl (Or.inr rfl)) rfl (Or.inr rfl) hds (by omega) (by decide) (by decide) e1.2 (by rw [e1.1]; show 0 + m0 ≤ _; omega) (by rw [e1.1]; show 0 + m0 ≤ _; omega) (fun i hi => ?_) dJ7_copyOfRangeByte_39247_27 (ljJ7_150 rfl) (Nat.le_of_ble_eq_true rfl) (Nat.le_of_ble_eq_true rfl) (fun q => ?_) (fun j hj k => ?_) rfl rfl rfl ?_
  · rw [e1.1] at hi
    rw [show (Int32.ofInt 0).toNatClampNeg = 0 by decide, Nat.zero_add]
    exact byt_fit (hby i hi)
  · rw [e1.1, show (Int32.ofInt 0).toNatClampNeg = 0 by decide]
    show Int32.ofInt (if nx = nx ∧ 0 ≤ q ∧ q < 0 + m0 then gi ((zr s nx)) b (q - 0) else gi ((zr s nx)) nx q) = (if 0 ≤ q ∧ q < 0 + m0 then Int32.ofInt (gi ((zr s nx)) b (0 + (q - 0))) else Int32.ofInt (gi ((zr s nx)) nx q))
    by_cases hq : 0 ≤ q ∧ q < 0 + m0
    · rw [if_pos ⟨rfl, hq⟩, if_pos hq, Nat.zero_add]
    · rw [if_neg (fun z => hq z.2), if_neg hq]
  · show Int32.ofInt (if j = nx ∧ 0 ≤ k ∧ k < 0 + m0 then gi ((zr s nx)) b (k - 0) else gi ((zr s nx)) j k) = Int32.ofInt (gi ((zr s nx)) j k)
    rw [if_neg (fun z => hj z.1)]
  refine w_aload 0 dJ7_copyOfRangeByte_39247_30 rfl ?_
  exact w_areturn rfl rfl dJ7_copyOfRangeByte_39247_32 rfl (by omega) (by omega) ⟨rfl, by rw [hz9]⟩
set_option maxRecDepth 100000 in
theorem cJ_cpR0 {C : Cx} {nx : Nat} {s : Sg} {b m m0 : Nat} (hn0 : KN ≤ nx) (hb : b < nx) (hbs : shC C b = some (.inr (.byte, m))) (hds : shC C nx = some (.inr (.byte, m0))) (hm : m0 ≤ m ∧ m ≤ 94) (hby9 : ∀ j, j < m → -128 ≤ gi s b j ∧ gi s b j < 128) (hne : m0 < m) : mm C MJ_cpR 2 1 m0 nx (nx + 1) [.ref b, vi 0, vi (m0 : Int)] (hp nx s) (QA (nx + 1) (wr (zr s nx) nx 0 m0 (gi s b)) nx) XF := by
  refine mm_of rfl rfl (Nat.le_of_ble_eq_true rfl) ?_
  show ww C MJ_cpR 2 1 m0 (nx + 1) _ XF nx 0 0 0 [(0, .ref b), (1, vi 0), (2, vi (m0 : Int))] [] (hp nx s)
  refine w_iload_n 1 dJ7_copyOfRange_39247_0 rfl rfl ?_
  refine w_ifne dJ7_copyOfRange_39247_1 rfl (fun q => absurd ((zE (by unfold R; omega)).mpr (by omega)) q) (fun _ => ?_)
  refine w_iload_n 2 dJ7_copyOfRange_39247_4 rfl rfl ?_
  refine w_aload_n 0 dJ7_copyOfRange_39247_5 rfl rfl ?_
  refine xe_blen dJ7_copyOfRange_39247_6 hbs (by omega) ?_
  refine w_icmpeq dJ7_copyOfRange_39247_7 rfl (fun q => absurd q (fun e9 => absurd ((c32e (by unfold R; omega) (by unfold R; omega)).mp e9) (by omega))) (fun _ => ?_)
  refine w_aload_n 0 dJ7_copyOfRange_39247_10 rfl rfl ?_
  refine w_iload_n 1 dJ7_copyOfRange_39247_11 rfl rfl ?_
  refine w_iload_n 2 dJ7_copyOfRange_39247_12 rfl rfl ?_
  refine w_callT MJ_cpB [.ref b, vi 0, vi (m0 : Int)] (st := []) dJ7_copyOfRange_39247_13 (ljJ7_339 rfl) (Nat.le_of_ble_eq_true rfl) (by omega) (by omega) (Nat.le_of_ble_eq_true rfl) (cJ_cpB hn0 hb hbs hds hm hby9) XOK.no (fun v h' hq => ?_)
  obtain ⟨rfl, rfl⟩ := hq
  exact w_areturn rfl rfl dJ7_copyOfRange_39247_16 rfl (by omega) (by omega) ⟨rfl, rfl⟩
set_option maxRecDepth 100000 in
theorem cJ_cpR1 {C : Cx} {nx : Nat} {s : Sg} {b m m0 : Nat} (hn0 : KN ≤ nx) (hb : b < nx) (hbs : shC C b = some (.inr (.byte, m))) (hds : shC C nx = some (.inr (.byte, m0))) (hm : m0 ≤ m ∧ m ≤ 94) (hby9 : ∀ j, j < m → -128 ≤ gi s b j ∧ gi s b j < 128) (hne : m0 = m) : mm C MJ_cpR 2 1 m0 nx (nx + 1) [.ref b, vi 0, vi (m0 : Int)] (hp nx s) (QA (nx + 1) (wr (zr s nx) nx 0 m0 (gi s b)) nx) XF := by
  refine mm_of rfl rfl (Nat.le_of_ble_eq_true rfl) ?_
  show ww C MJ_cpR 2 1 m0 (nx + 1) _ XF nx 0 0 0 [(0, .ref b), (1, vi 0), (2, vi (m0 : Int))] [] (hp nx s)
  refine w_iload_n 1 dJ7_copyOfRange_39247_0 rfl rfl ?_
  refine w_ifne dJ7_copyOfRange_39247_1 rfl (fun q => absurd ((zE (by unfold R; omega)).mpr (by omega)) q) (fun _ => ?_)
  refine w_iload_n 2 dJ7_copyOfRange_39247_4 rfl rfl ?_
  refine w_aload_n 0 dJ7_copyOfRange_39247_5 rfl rfl ?_
  refine xe_blen dJ7_copyOfRange_39247_6 hbs (by omega) ?_
  refine w_icmpeq dJ7_copyOfRange_39247_7 rfl (fun _ => ?_) (fun q => absurd ((c32e (by unfold R; omega) (by unfold R; omega)).mpr (by omega)) q)
  refine w_aload_n 0 dJ7_copyOfRange_39247_17 rfl rfl ?_
  refine xe_clone (m := m) dJ7_copyOfRange_39247_18 (ckl rfl) ckc hbs hb (by rw [← hne]; exact hds) hn0 hby9 (by omega) (Nat.le_of_ble_eq_true rfl) (by omega) (by omega) ?_
  rw [← hne]
  refine xe_castB dJ7_copyOfRange_39247_21 (ckb rfl) hds (by omega) ?_
  exact w_areturn rfl rfl dJ7_copyOfRange_39247_24 rfl (by omega) (by omega) ⟨rfl, rfl⟩
theorem cJ_cpR {C : Cx} {nx : Nat} {s : Sg} {b m m0 : Nat} (hn0 : KN ≤ nx) (hb : b < nx) (hbs : shC C b = some (.inr (.byte, m))) (hds : shC C nx = some (.inr (.byte, m0))) (hm : m0 ≤ m ∧ m ≤ 94) (hby9 : ∀ j, j < m → -128 ≤ gi s b j ∧ gi s b j < 128) : mm C MJ_cpR 2 1 m0 nx (nx + 1) [.ref b, vi 0, vi (m0 : Int)] (hp nx s) (QA (nx + 1) (wr (zr s nx) nx 0 m0 (gi s b)) nx) XF := by
  rcases Nat.lt_or_ge m0 m with h | h
  · exact cJ_cpR0 hn0 hb hbs hds hm hby9 h
  · exact cJ_cpR1 hn0 hb hbs hds hm hby9 (by omega)
/-- a String's text -/
def Txt (s : Sg) (a : Nat) (L : List Int) : Prop := gd s a 0 = a + 1 ∧ gi s a 1 = 0 ∧ ∀ j, j < L.length → gi s (a + 1) j = L.getD j 0
set_option maxRecDepth 100000 in
theorem cJ_nA {C : Cx} {nx : Nat} {s : Sg} {a b m m0 : Nat} (hN : SHN C 0) (hsa : shC C a = some (.inl 12)) (ha : KN ≤ a ∧ a < nx ∧ a ≠ b) (h81 : 81 < nx) (hn0 : KN ≤ nx) (hb : b < nx) (hb0 : b ≠ 0) (hbs : shC C b = some (.inr (.byte, m))) (hds : shC C nx = some (.inr (.byte, m0))) (hm : m0 ≤ m ∧ m ≤ 94) (b1 : gd s 81 0 = b) (b2 : gi s 81 1 = 0) (b3 : gi s 81 3 = (m0 : Int)) (hby9 : ∀ j, j < m → -128 ≤ gi s b j ∧ gi s b j < 128) : mm C MJ_nA 3 1 m0 nx (nx + 1) [.ref a, .ref 81, .null] (hp nx s) (QV (nx + 1) (sd (wr (zr (si s a 1 0) nx) nx 0 m0 (gi s b)) a 0 nx)) XF := by
  have hk80 : KN = 80 := rfl
  refine mm_of rfl rfl (Nat.le_of_ble_eq_true rfl) ?_
  show ww C MJ_nA 3 1 m0 (nx + 1) _ XF nx 0 0 0 [(0, .ref a), (1, .ref 81), (2, .null)] [] (hp nx s)
  refine w_aload_n 0 dJ0_init_db425_0 rfl rfl ?_
  refine c_obj dJ0_init_db425_1 (okJ0_1 rfl) (Nat.le_of_ble_eq_true rfl) (Nat.le_of_ble_eq_true rfl) ?_
  refine w_aload_n 1 dJ0_init_db425_4 rfl rfl ?_
  refine w_callU MJ_aVal yJ5_getValue_6d5f1 [] (st := []) dJ0_init_db425_5 (ljJ0_552 rfl) (by omega) hN.1 (Nat.le_of_ble_eq_true rfl) (by omega) (by omega) (Nat.le_of_ble_eq_true rfl) (cJ_aVal hN.1 h81 hb0 b1) (fun v h' hq => ?_)
  obtain ⟨rfl, rfl⟩ := hq
  refine w_astore_n (lv' := [(3, .ref b), (0, .ref a), (1, .ref 81), (2, .null)]) dJ0_init_db425_8 rfl (Nat.le_of_ble_eq_true rfl) rfl ?_
  refine w_aload_n 2 dJ0_init_db425_9 rfl rfl ?_
  refine w_callU MJ_sLen yJ5_length_8abf5 [] (st := []) dJ0_init_db425_10 (ljJ0_549 rfl) (by omega) hN.1 (Nat.le_of_ble_eq_true rfl) (by omega) (by omega) (Nat.le_of_ble_eq_true rfl) (cJ_sLen hN.1 h81 b3) (fun v h' hq => ?_)
  obtain ⟨rfl, rfl⟩ := hq
  refine w_istore (lv' := [(4, vi (m0 : Int)), (3, .ref b), (0, .ref a), (1, .ref 81), (2, .null)]) dJ0_init_db425_13 (Nat.le_of_ble_eq_true rfl) rfl ?_
  refine w_aload_n 3 dJ0_init_db425_15 rfl rfl ?_
  refine w_callU MJ_aL1 yJ5_isLatin1_aae02 [] (st := []) dJ0_init_db425_16 (ljJ0_1047 rfl) (by omega) hN.1 (Nat.le_of_ble_eq_true rfl) (by omega) (by omega) (Nat.le_of_ble_eq_true rfl) (cJ_aL1 hN.1 h81 b2) (fun v h' hq => ?_)
  obtain ⟨rfl, rfl⟩ := hq
  refine w_ifeq dJ0_init_db425_19 rfl (fun q => absurd q (fun e9 => absurd ((zE (by unfold R; omega)).mp e9) (by omega))) (fun _ => ?_)
  refine w_aload_n 2 dJ0_init_db425_22 rfl rfl ?_
  refine x_iconst dJ0_init_db425_23 ?_
  refine xe_putB 12 1 dJ0_init_db425_24 (pofjJ0_15_12 rfl rfl) rfl hsa (by omega) ?_
  refine w_aload_n 2 dJ0_init_db425_27 rfl rfl ?_
  refine w_aload_n 1 dJ0_init_db425_28 rfl rfl ?_
  refine x_iconst dJ0_init_db425_29 ?_
  refine w_iload 0 dJ0_init_db425_30 rfl ?_
  have hgb : gi (si s a 1 0) b = gi s b := funext fun j => by rw [gi_si, if_neg (by omega)]
  refine w_callT MJ_cpR [.ref b, vi 0, vi (m0 : Int)] (st := [.ref a]) dJ0_init_db425_32 (ljJ0_54 rfl) (Nat.le_of_ble_eq_true rfl) (by omega) (by omega) (Nat.le_of_ble_eq_true rfl) (cJ_cpR hn0 hb hbs hds hm (by rw [hgb]; exact hby9)) XOK.no (fun v h' hq => ?_)
  obtain ⟨rfl, rfl⟩ := hq
  refine xe_putR 12 0 dJ0_init_db425_35 (pofjJ0_9_12 rfl rfl) rfl hsa (by omega) (by omega) (by omega) ?_
  refine w_goto dJ0_init_db425_38 rfl ?_
  exact w_return rfl dJ0_init_db425_97 rfl (by omega) (by omega) ⟨rfl, by rw [hgb]⟩
set_option maxRecDepth 100000 in
theorem cJ_nS {C : Cx} {nx : Nat} {s : Sg} {a b m m0 : Nat} (hN : SHN C 0) (hsa : shC C a = some (.inl 12)) (ha : KN ≤ a ∧ a < nx ∧ a ≠ b) (h81 : 81 < nx) (hn0 : KN ≤ nx) (hb : b < nx) (hb0 : b ≠ 0) (hbs : shC C b = some (.inr (.byte, m))) (hds : shC C nx = some (.inr (.byte, m0))) (hm : m0 ≤ m ∧ m ≤ 94) (b1 : gd s 81 0 = b) (b2 : gi s 81 1 = 0) (b3 : gi s 81 3 = (m0 : Int)) (hby9 : ∀ j, j < m → -128 ≤ gi s b j ∧ gi s b j < 128) : mm C MJ_nS 4 1 m0 nx (nx + 1) [.ref a, .ref 81] (hp nx s) (QV (nx + 1) (sd (wr (zr (si s a 1 0) nx) nx 0 m0 (gi s b)) a 0 nx)) XF := by
  refine mm_of rfl rfl (Nat.le_of_ble_eq_true rfl) ?_
  show ww C MJ_nS 4 1 m0 (nx + 1) _ XF nx 0 0 0 [(0, .ref a), (1, .ref 81)] [] (hp nx s)
  refine w_aload_n 0 dJ0_init_81219_0 rfl rfl ?_
  refine w_aload_n 1 dJ0_init_81219_1 rfl rfl ?_
  refine w_null dJ0_init_81219_2 ?_
  refine w_callI MJ_nA [.ref 81, .null] (st := []) dJ0_init_81219_3 (ljJ0_489 rfl) (Nat.le_of_ble_eq_true rfl) (by omega) (by omega) (Nat.le_of_ble_eq_true rfl) (cJ_nA hN hsa ha h81 hn0 hb hb0 hbs hds hm b1 b2 b3 hby9) XOK.no (fun v h' hq => ?_)
  obtain ⟨rfl, rfl⟩ := hq
  exact w_return rfl dJ0_init_81219_6 rfl (by omega) (by omega) ⟨rfl, rfl⟩
set_option maxRecDepth 100000 in
theorem cJ_toS {C : Cx} {s : Sg} {c : Nat} {L : List Int} (hB : SBk s c L) (hN : SHN C c) (hsa : shC C (83 + c) = some (.inl 12)) (hds : shC C (84 + c) = some (.inr (.byte, L.length))) : mm C MJ_toS 5 2 110 (83 + c) (83 + c + 1 + 1) [.ref 81] (hp (83 + c) s) (fun v h' => v = some (.ref (83 + c)) ∧ ∃ s', h' = hp (83 + c + 1 + 1) s' ∧ Txt s' (83 + c) L ∧ FrS (c + 2) s s') XF := by
  have hk80 : KN = 80 := rfl
  have hp94 := cpo_le c
  have hcn : cn 12 = 4 := by decide
  obtain ⟨b1, b2, b3, b4, b5, b6⟩ := hB
  have hn9 : 83 + c + 1 = 84 + c := by omega
  rw [← hn9] at hds
  refine mm_of rfl rfl (Nat.le_of_ble_eq_true rfl) ?_
  show ww C MJ_toS 5 2 110 (83 + c + 1 + 1) _ XF (83 + c) 0 0 0 [(0, .ref 81)] [] (hp (83 + c) s)
  refine xe_new 12 dJ4_toString_0e30d_0 hsa (by omega) (nkJ4_18 rfl) (by omega) (Nat.le_of_ble_eq_true rfl) ?_
  refine w_dup dJ4_toString_0e30d_3 rfl ?_
  refine w_aload_n 0 dJ4_toString_0e30d_4 rfl rfl ?_
  refine w_callI MJ_nS [.ref 81] (st := [.ref (83 + c)]) dJ4_toString_0e30d_5 (ljJ4_137 rfl) (Nat.le_of_ble_eq_true rfl) (by omega) (by omega) (Nat.le_of_ble_eq_true rfl) (cJ_nS (b := 82 + c) (m := cpo c) (m0 := L.length) (hN.le (Nat.zero_le _)) hsa ⟨by omega, by omega, by omega⟩ (by omega) (by omega) (by omega) (by omega) (hN.2 c (Nat.le_refl _)) hds ⟨b5, hp94⟩ (by rw [gd_zr, if_neg (by omega)]; exact b1) (by rw [gi_zr, if_neg (by omega)]; exact b2) (by rw [gi_zr, if_neg (by omega)]; exact b3) (fun j hj => by rw [gi_zr, if_neg (by omega)]; exact b6 j hj)) XOK.no (fun v h' hq => ?_)
  obtain ⟨rfl, rfl⟩ := hq
  refine w_areturn rfl rfl dJ4_toString_0e30d_8 rfl (by omega) (by omega) ⟨rfl, _, rfl, ⟨?_, ?_, fun j hj => ?_⟩, fun a ha => ⟨funext fun j => ?_, funext fun j => ?_, funext fun j => ?_⟩⟩
  · show (if 83 + c = 83 + c ∧ 0 = 0 then 83 + c + 1 else _) = _
    rw [if_pos ⟨rfl, rfl⟩]
  · rw [gi_sd, gi_wr, if_neg (by omega), gi_zr, if_neg (by omega), gi_si, if_pos ⟨rfl, rfl⟩]
  · rw [gi_sd, gi_wr, if_pos ⟨rfl, Nat.zero_le _, by omega⟩, gi_zr, if_neg (by omega)]
    exact b4 j hj
  · rw [gi_sd, gi_wr, if_neg (by omega), gi_zr, if_neg (by omega), gi_si, if_neg (by omega), gi_zr, if_neg (by omega)]
  · show (if a = 83 + c + 1 then 0 else (if a = 83 + c then 0 else gl s a j)) = gl s a j
    rw [if_neg (by omega), if_neg (by omega)]
  · show (if a = 83 + c ∧ j = 0 then _ else (if a = 83 + c + 1 then 0 else (if a = 83 + c then 0 else gd s a j))) = gd s a j
    rw [if_neg (by omega), if_neg (by omega), if_neg (by omega)]

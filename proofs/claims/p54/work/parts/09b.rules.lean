theorem ifEq_c {α : Type} {x y : Int} {A B : Option α} {o : α} {G : Prop} (hs : ifEq x y A B = some o) (kt : R x → x = y → A = some o → G) (kf : R x → ¬ x = y → B = some o → G) : G := by
  obtain ⟨hx, hy, hA, hB⟩ := ifEq_u hs
  by_cases q : x = y
  · exact kt hx q (hA q)
  · exact kf hx q (hB q)
def cpy (s : Sg) (a b n : Nat) : Sg := (fun c j => if c = b ∧ j < n then s.1 a j else s.1 c j, s.2)
theorem gi_cpy (s : Sg) (a b n c j : Nat) : gi (cpy s a b n) c j = if c = b ∧ j < n then gi s a j else gi s c j := rfl
theorem rt17 {i : Int} (h : 0 ≤ i ∧ i < 8) : RT 17 i.toNat = some (18 + 3 * i.toNat) := by
  obtain ⟨n, rfl⟩ := Int.eq_ofNat_of_zero_le h.1
  have hn : n < 8 := by omega
  exact (show ∀ n, n < 8 → RT 17 n = some (18 + 3 * n) by decide) n hn
theorem pos17 {i : Int} (h : 0 ≤ i ∧ i < 8) : isPos (18 + 3 * i.toNat) := by
  obtain ⟨n, rfl⟩ := Int.eq_ofNat_of_zero_le h.1
  have hn : n < 8 := by omega
  exact (show ∀ n, n < 8 → 18 + 3 * n ∈ posL by decide) n hn
section NULLS
variable {p : Program} {l : Launch} {e : Env} {R : Room} {s : State} {m : MethodId} {args : Array Value} {below : List Frame} {meth : Method} {c : Code} {H : Heap} {locs : List Loc} {cells slots : Nat} {Q : State → Prop}
variable {cc : ByteArray} {pc : Nat} {ls : Array Slot} {rest : List Value}
theorem lv_astoreN_n (hexec : p.tables.exec = Jvm.exec) (hb : c.code = cc) {k : Fin 4} {i nL : Nat} {lv lv' : List (Nat × Value)} (hdg : decode cc pc = .ok (.astore_n k, 1)) (hi : (k : Nat) = i) (h : lv_has ls nL lv) (hn : i < nL) (hl : (i, Value.null) :: lv.filter (fun q => !(q.1 == i) && !(q.1 + 1 == i && q.2.category == 2)) = lv')
    (kk : ∀ ls' : Array Slot, lv_has ls' nL lv' → W p l e R s m args below meth c H locs cells slots Q (F0 m (pc + 1) ls' rest)) : W p l e R s m args below meth c H locs cells slots Q (F0 m pc ls (.null :: rest)) := by
  subst hi
  obtain ⟨ls', e', h'⟩ := lv_store1 (v := .null) h hn rfl
  intro T hT X
  obtain ⟨t, a, b⟩ := kk ls' (hl ▸ h') T hT X
  refine ⟨t, ?_, b⟩
  jvm_step X.here [X.here.top, ↓top_set X.here.top, hexec, hb, hdg, e', Value.isRef]
  exact a
theorem lv_ldcfw (hexec : p.tables.exec = Jvm.exec) (hb : c.code = cc) {own : String} {index : Nat} {v : UInt32} (hown : s.vm.findClass own = some m.cls) (hconst : (Jvm.Cond.constantFloat own index v).before args s = true) (hdg : decode cc pc = .ok (.ldc_w index, 3)) (k : W p l e R s m args below meth c H locs cells slots Q (F0 m (pc + 3) ls (.float v :: rest))) : W p l e R s m args below meth c H locs cells slots Q (F0 m pc ls rest) := by
  intro T hT X
  obtain ⟨t, a, b⟩ := k T hT X
  refine ⟨t, ?_, b⟩
  obtain ⟨k, cf, hk, hcf, hcp⟩ := Cond.constantFloat_spec hown hconst
  obtain ⟨k', hk', he⟩ := X.warmed.alike.2.2 _ _ hk
  jvm_step X.here [hexec, hb, hdg, ldc_w.wp_float (s := T) (f := F0 m pc ls rest) X.here.top hk' (by rw [he]; exact hcf) hcp]
  exact a
theorem nfw_le : nativeFrameWords "java/lang/System" "arraycopy" 5 ≤ 51 := by decide +kernel
end NULLS
section XY
variable {C : Cx} {M : Mk} {d mc ms ne : Nat} {Qr : Option Value → Hp → Prop} {Qx : String → Hp → Prop} {nx k n pc : Nat} {lv lv' : List (Nat × Value)} {st stk : List Value} {h : Hp} {s : Sg} {α β : Type} {o : β}
theorem nam_s {g : Sg → Option β} {s0 : Sg} (hs : lett s0 g = some o) (kk : ∀ s', g s' = some o → ww C M d mc ms ne Qr Qx nx k n pc lv st (hp nx s')) : ww C M d mc ms ne Qr Qx nx k n pc lv st (hp nx s0) := kk s0 hs
theorem w_astore_nN {z : Fin 4} {i : Nat} (hd : decode (mB M) pc = .ok (.astore_n z, 1)) (hi : (z : Nat) = i) (hn : i < mL M) (hl : (i, Value.null) :: lv.filter (fun q => !(q.1 == i) && !(q.1 + 1 == i && q.2.category == 2)) = lv') (kk : ww C M d mc ms ne Qr Qx nx k n (pc + 1) lv' st h) : ww C M d mc ms ne Qr Qx nx k n pc lv (.null :: st) h := by
  intro p l e s m args below meth c Fin cz hr hx hzz H locs ls hP hS hL
  refine lv_astoreN_n (lv' := lm C lv') cz.1.1 cz.1.2.1 hd hi hL hn (by subst hl; exact lm_set1 C lv i .null) (fun ls hL => ?_)
  exact kk p l e s m args below meth c Fin cz hr hx hzz H locs ls hP hS hL
theorem w_aload_nN (q : Nat) {z : Fin 4} {i : Nat} (hd : decode (mB M) pc = .ok (.aload_n z, 1)) (hi : (z : Nat) = i) (hl : lv[q]? = some (i, .null)) (kk : ww C M d mc ms ne Qr Qx nx k n (pc + 1) lv (.null :: st) h) : ww C M d mc ms ne Qr Qx nx k n pc lv st h := by
  intro p l e s m args below meth c Fin cz hr hx hzz H locs ls hP hS hL
  exact lv_aload_nN cz.1.1 cz.1.2.1 hd hi (lv_at hL q (lm_at C hl)) (kk p l e s m args below meth c Fin cz hr hx hzz H locs ls hP hS hL)
theorem x_istore_n {z : Fin 4} {i : Nat} {x : Int} {f : Int → Option β} (lv' : Int → List (Nat × Value)) (hs : lett x f = some o) (hd : decode (mB M) pc = .ok (.istore_n z, 1)) (hi : (z : Nat) = i) (hn : i < mL M) (hl : ∀ y, (i, vi y) :: lv.filter (fun q => !(q.1 == i) && !(q.1 + 1 == i && q.2.category == 2)) = lv' y) (kk : ∀ y, f y = some o → ww C M d mc ms ne Qr Qx nx k n (pc + 1) (lv' y) st h) : ww C M d mc ms ne Qr Qx nx k n pc lv (vi x :: st) h := w_istore_n hd hi hn (hl x) (kk x hs)
theorem x_istore {i : Nat} {x : Int} {f : Int → Option β} (lv' : Int → List (Nat × Value)) (hs : lett x f = some o) (hd : decode (mB M) pc = .ok (.istore i, 2)) (hn : i < mL M) (hl : ∀ y, (i, vi y) :: lv.filter (fun q => !(q.1 == i) && !(q.1 + 1 == i && q.2.category == 2)) = lv' y) (kk : ∀ y, f y = some o → ww C M d mc ms ne Qr Qx nx k n (pc + 2) (lv' y) st h) : ww C M d mc ms ne Qr Qx nx k n pc lv (vi x :: st) h := w_istore hd hn (hl x) (kk x hs)
theorem x_lstore_n {z : Fin 4} {i : Nat} {x : Int} {f : Int → Option β} (lv' : Int → List (Nat × Value)) (hs : lett x f = some o) (hd : decode (mB M) pc = .ok (.lstore_n z, 1)) (hi : (z : Nat) = i) (hn : i + 1 < mL M) (hl : ∀ y, (i, vl y) :: lv.filter (fun q => !(q.1 == i) && (!(q.1 == i + 1) && !(q.1 + 1 == i && q.2.category == 2))) = lv' y) (kk : ∀ y, f y = some o → ww C M d mc ms ne Qr Qx nx k n (pc + 1) (lv' y) st h) : ww C M d mc ms ne Qr Qx nx k n pc lv (vl x :: st) h := w_lstore_n hd hi hn (hl x) (kk x hs)
theorem x_lstore {i : Nat} {x : Int} {f : Int → Option β} (lv' : Int → List (Nat × Value)) (hs : lett x f = some o) (hd : decode (mB M) pc = .ok (.lstore i, 2)) (hn : i + 1 < mL M) (hl : ∀ y, (i, vl y) :: lv.filter (fun q => !(q.1 == i) && (!(q.1 == i + 1) && !(q.1 + 1 == i && q.2.category == 2))) = lv' y) (kk : ∀ y, f y = some o → ww C M d mc ms ne Qr Qx nx k n (pc + 2) (lv' y) st h) : ww C M d mc ms ne Qr Qx nx k n pc lv (vl x :: st) h := w_lstore hd hn (hl x) (kk x hs)
theorem w_ldcfw {idx : Nat} (v : UInt32) (hd : decode (mB M) pc = .ok (.ldc_w idx, 3)) (hw : Cond.constantFloat (mY M).cls idx v ∈ lw_all) (kk : ww C M d mc ms ne Qr Qx nx k n (pc + 3) lv (.float v :: st) h) : ww C M d mc ms ne Qr Qx nx k n pc lv st h := by
  intro p l e s m args below meth c Fin cz hr hx hzz H locs ls hP hS hL
  exact lv_ldcfw cz.1.1 cz.1.2.1 cz.1.2.2.2.2 (cz.2.1 _ hw) hd (kk p l e s m args below meth c Fin cz hr hx hzz H locs ls hP hS hL)
theorem x_V_P (M' : Mk) (As : List Value) (st : List Value) {idx d' b ci : Nat} {m : Option Nat} {f : Nat → Option β} (hs : bnd m f = some o) (hst : stk = As.reverse ++ .ref b :: st) (hd : decode (mB M) pc = .ok (.invokevirtual idx, 3)) (hlk : LKV M M' idx As.length) (hb : b < nx) (hsh : shp b = some (.inl ci)) (hci : cR ci = (mY M').cls) (hdd : d' + 1 ≤ d) (hk : k ≤ mc) (hn : n ≤ ms) (hw : (st.map fun v => v.category).sum ≤ 8)
    (hm : ∀ r, m = some r → mm C M' d' 0 0 nx nx (.ref b :: As) (hp nx s) (QA nx s r) XF) (kk : ∀ r, m = some r → f r = some o → ww C M d mc ms ne Qr Qx nx k n (pc + 3) lv (.ref r :: st) (hp nx s)) : ww C M d mc ms ne Qr Qx nx k n pc lv stk (hp nx s) := by
  subst hst
  refine bnd_e hs fun r hr hs => ?_
  refine w_callV M' As hd hlk hb (shp_C hsh) hci hdd hk hn hw (hm r hr) XOK.no (fun v h' hq => ?_)
  obtain ⟨rfl, rfl⟩ := hq
  exact kk r hr hs
/-- a row that can be copied from -/
def srcR (ty : FieldType) (n0 : Nat) (f : Nat → Int32) (q : Nat) (U : State) (H : Heap) : Prop := ∃ cs : Cell, H[q]? = some cs ∧ cs.vm ≠ .unknown ∧ U.isArrayOf cs ty ∧ n0 ≤ cs.slots.size ∧ ∀ j : Nat, j < n0 → cs.slots[j]? = some (.int (f j))
theorem srcR_new {U : State} {H : Heap} {a n t1 : Nat} {ty : FieldType} (hK : va_K (xD C) vwCl (tyl C) U) (hP : HPh C nx h H) (hs : shC C a = some (.inr (ty, n))) (ha : a < nx) (ht : (tyl C)[t1]? = some (xA C ty, ty)) (hI : ty = .int ∨ ty = .byte) : srcR ty n (gI h a) (ad C a) U H := by
  have hc : H[xB C + a]? = some (arrV (xA C ty) n (fun j => .int (gI h a j))) := by
    have h9 := hP.1 a _ (wl_at C nx h ha)
    rw [ce_arrC C h hs] at h9
    rcases hI with rfl | rfl <;> exact h9
  rw [ad_l9 (hP9 hP ha)]
  exact ⟨_, hc, (fun q => by cases q), (hK.2 t1 _ ht).1 n _, by rw [arrV_size]; exact Nat.le_refl _, fun j hj => arrV_read _ _ hj⟩
theorem srcR_old {U : State} {H : Heap} {ty : FieldType} {t N : Nat} {f : Nat → Int32} {A : Nat → Prop} (hT : va_T ty t N (fun j => .int (f j)) A U H) : srcR ty N f t U H := by
  obtain ⟨cell, h1, h2, h3, h4, -, h5, -⟩ := hT
  exact ⟨cell, h1, h3, h2, h4, h5⟩
/-- a stretch of a row into another one -/
theorem w_copyG {a b n0 n1 t1 idx : Nat} {ty : FieldType} {f : Nat → Int32} {sp dp m0 : Int32} {h' : Hp} (hsrc : ∀ (U : State) (H : Heap) (locs : List Loc), St C U U.heap → va_S (xAl C) U.heap H locs → HPh C nx h H → srcR ty n0 f (ad C a) U H) (ht : (tyl C)[t1]? = some (xA C ty, ty)) (hI : ty = .int ∨ ty = .byte) (hs : shC C b = some (.inr (ty, n1))) (hb : b < nx)
    (h1 : ¬ sp < 0) (h2 : ¬ dp < 0) (h3 : ¬ m0 < 0) (h4 : sp.toNatClampNeg + m0.toNatClampNeg ≤ n0) (h5 : dp.toNatClampNeg + m0.toNatClampNeg ≤ n1) (hfit : ∀ i, i < m0.toNatClampNeg → fits ty (.int (f (sp.toNatClampNeg + i))) = true) (hd : decode (mB M) pc = .ok (.invokestatic idx, 3)) (hlk : Cond.methodLink (mY M).cls idx arraycopyName ∈ lw_all ∧ Cond.native arraycopyName ∈ lw_all ∧ Cond.static arraycopyName ∈ lw_all ∧ Cond.initialized "java/lang/System" ∈ lw_all) (hdd : 1 ≤ d) (hw : (st.map fun v => v.category).sum ≤ 8)
    (e0 : ∀ q, gI h' b q = va_cpy f (gI h b) sp.toNatClampNeg dp.toNatClampNeg m0.toNatClampNeg q) (e1 : ∀ j, j ≠ b → ∀ k, gI h' j k = gI h j k) (e2 : gR h' = gR h) (e3 : gL h' = gL h) (e4 : gD h' = gD h) (kk : ww C M d mc ms ne Qr Qx nx k n (pc + 3) lv st h') : ww C M d mc ms ne Qr Qx nx k n pc lv (.int m0 :: .int dp :: .ref b :: .int sp :: .ref a :: st) h := by
  intro p l ee s9 m args below meth c Fin cz hr hx hzz H locs ls hP hS hL
  show W p l ee _ s9 m args below meth c H locs k n Fin (F0 m pc ls (.int m0 :: .int dp :: .ref (ad C b) :: .int sp :: .ref (ad C a) :: st.map (up C)))
  rw [show ad C b = xB C + b from ad_l9 (hP9 hP hb)]
  obtain ⟨cs, c1, c3, c4, c5, c6⟩ := hsrc s9 H locs cz.2.2.2.1 hS hP
  obtain ⟨c2, ks, hks, cms, hkks⟩ := c4
  have nn : ∀ z : Int32, ¬ z < 0 → z.toInt = (z.toNatClampNeg : Int) := by
    intro z hz
    have hz0 : (0 : Int) ≤ z.toInt := by
      have := Int32.not_lt.mp hz
      simpa using Int32.le_iff_toInt_le.mp this
    show z.toInt = ((z.toInt.toNat : Nat) : Int)
    omega
  have hc1 : H[xB C + b]? = some (arrV (xA C ty) n1 (fun j => .int (gI h b j))) := by
    have h9 := hP.1 b _ (wl_at C nx h hb)
    rw [ce_arrC C h hs] at h9
    rcases hI with rfl | rfl <;> exact h9
  obtain ⟨-, kd, hkd, cmd, hkkd⟩ := (cz.2.2.2.1.1.2 t1 _ ht).1 n1 (fun j => .int (gI h b j))
  intro T hT X
  obtain ⟨vm', X', step⟩ := X.arraycopy cz.1.1 cz.1.2.2.2.2 (cz.2.1 _ hlk.1) (cz.2.1 _ hlk.2.1) (cz.2.1 _ hlk.2.2.1) (cz.2.1 _ hlk.2.2.2) (src := ad C a) (dst := xB C + b) (cs := cs) (cd := arrV (xA C ty) n1 (fun j => .int (gI h b j))) (srcPos := sp) (destPos := dp) (n := m0) (by rw [hT]; exact c1) (by rw [hT]; exact hc1) c2 (fun _ z => by cases z) c3 (fun z => by cases z) hks hkd hkks hkkd (by rcases hI with rfl | rfl <;> rfl) h1 h2 h3
    (by rw [nn sp h1, nn m0 h3]; omega) (by rw [nn dp h2, nn m0 h3, arrV_size]; omega)
    (fun vm1 _ i hi => by
      have e : cs.slots.getD (sp.toNatClampNeg + i) .null = .int (f (sp.toNatClampNeg + i)) := by
        rw [Array.getD_eq_getD_getElem?, c6 _ (by omega)]
        rfl
      rw [e]
      exact ⟨hfit i hi, trivial⟩)
    (g := F0 m pc ls (.int m0 :: .int dp :: .ref (xB C + b) :: .int sp :: .ref (ad C a) :: st.map (up C))) rfl (hL.1.trans cz.1.2.2.2.1.symm) (rest := st.map (up C)) rfl (by rw [cz.1.2.1]; exact hd) (by show 1 ≤ d; exact hdd) (by
      have := nfw_le
      rw [up_sum]
      show 2 * 0 + _ + _ ≤ 70 * d
      omega)
  have e9 : copied cs (arrV (xA C ty) n1 (fun j => .int (gI h b j))) sp dp m0 = arrV (xA C ty) n1 (fun j => .int (va_cpy f (gI h b) sp.toNatClampNeg dp.toNatClampNeg m0.toNatClampNeg j)) := va_copiedX (fun z => .int z) cs (xA C ty) f (gI h b) c6 h4
  rw [e9] at X' step
  generalize hcN : arrV (xA C ty) n1 (fun j => .int (va_cpy f (gI h b) sp.toNatClampNeg dp.toNatClampNeg m0.toNatClampNeg j)) = cN at X' step
  have hl : xB C + b < H.size := (Array.getElem?_eq_some_iff.mp hc1).1
  have hheap : ((T.setVm vm').setCell (xB C + b) cN).heap = H.setIfInBounds (xB C + b) cN := by rw [← hT]; rfl
  have oq : ∀ q : Nat, q ≠ xB C + b → (H.setIfInBounds (xB C + b) cN)[q]? = H[q]? := fun q hq => by simp [Array.getElem?_setIfInBounds, Ne.symm hq]
  have sq : (H.setIfInBounds (xB C + b) cN)[xB C + b]? = some cN := by simp [Array.getElem?_setIfInBounds, hl]
  have zq : (H.setIfInBounds (xB C + b) cN).size = H.size := by simp
  have key : HPh C nx h' (H.setIfInBounds (xB C + b) cN) := by
    refine HPh_upd hP hb ?_ zq oq e1 (fun j _ k => by rw [e2]) (fun j _ k => by rw [e3]) (fun j _ k => by rw [e4])
    rw [ce_arrC C h' hs]
    have e8 : cN = arrV (xA C ty) n1 (fun j => .int (gI h' b j)) := by
      rw [← hcN]
      congr 1
      funext j
      rw [e0 j]
    rw [e8] at sq
    rw [e8]
    rcases hI with rfl | rfl <;> exact sq
  obtain ⟨t, a1, b1⟩ := kk p l ee s9 m args below meth c Fin cz hr hx hzz (H.setIfInBounds (xB C + b) cN) _ ls key ⟨by rw [zq]; exact hS.1, fun q g1 g2 => by
      rw [oq q (fun e => g2 (by rw [e]; exact Nat.le_add_right _ _))]
      exact hS.2.1 q g1 g2, fun q hq => by
      rcases List.mem_append.mp hq with z | z
      · exact hS.2.2 q z
      · obtain ⟨y, -, hy⟩ := List.mem_map.mp z
        rw [← hy]
        exact Nat.le_add_right _ _⟩ hL _ hheap X'
  exact ⟨t, step t a1, b1⟩
theorem x_copy {a b N idx : Nat} {x : Int} (hxN : x = (N : Int)) (ha : shp a = some (.inr (.int, N))) (hla : a < nx) (hb : shp b = some (.inr (.int, N))) (hlb : b < nx) (hd : decode (mB M) pc = .ok (.invokestatic idx, 3)) (hlk : Cond.methodLink (mY M).cls idx arraycopyName ∈ lw_all ∧ Cond.native arraycopyName ∈ lw_all ∧ Cond.static arraycopyName ∈ lw_all ∧ Cond.initialized "java/lang/System" ∈ lw_all) (hdd : 1 ≤ d) (hN : N ≤ 4096) (hw : (st.map fun v => v.category).sum ≤ 8) (kk : ww C M d mc ms ne Qr Qx nx k n (pc + 3) lv st (hp nx (cpy s a b N))) : ww C M d mc ms ne Qr Qx nx k n pc lv (vi x :: vi 0 :: .ref b :: vi 0 :: .ref a :: st) (hp nx s) := by
  subst hxN
  have e0 : (Int32.ofInt 0).toNatClampNeg = 0 := by decide
  have eN : (Int32.ofInt (N : Int)).toNatClampNeg = N := by
    show (Int32.ofInt (N : Int)).toInt.toNat = N
    rw [t32 (by unfold R; omega)]
    exact Int.toNat_natCast N
  have hNn : ¬ Int32.ofInt (N : Int) < 0 := by
    rw [z32, c32l (by unfold R; omega) R0]; omega
  refine w_copyG (f := gI (hp nx s) a) (n0 := N) (n1 := N) (ty := .int) (t1 := 0) (h' := hp nx (cpy s a b N)) (fun U H locs hSt _ hP => srcR_new (t1 := 0) hSt.1 hP (shp_C ha) hla rfl (Or.inl rfl)) rfl (Or.inl rfl) (shp_C hb) hlb (by decide) (by decide) hNn (by rw [e0, eN]; omega) (by rw [e0, eN]; omega) (fun _ _ => rfl) hd hlk hdd hw (fun q => ?_) (fun j hj k => ?_) rfl rfl rfl kk
  · rw [e0, eN]
    show Int32.ofInt (if b = b ∧ q < N then s.1 a q else s.1 b q) = (if 0 ≤ q ∧ q < 0 + N then Int32.ofInt (s.1 a (0 + (q - 0))) else Int32.ofInt (s.1 b q))
    by_cases hq : q < N
    · rw [if_pos ⟨rfl, hq⟩, if_pos ⟨Nat.zero_le _, by omega⟩]; simp
    · rw [if_neg (by omega), if_neg (by omega)]
  · show Int32.ofInt (if j = b ∧ k < N then s.1 a k else s.1 j k) = Int32.ofInt (s.1 j k)
    rw [if_neg (fun e => hj e.1)]
end XY

def slen (w : Nat) : Int := (wlen w : Int)
def schr (w : Nat) (i : Int) : Int := wch w i.toNat


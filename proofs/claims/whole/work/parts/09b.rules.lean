theorem ifEq_c {α : Type} {x y : Int} {A B : Option α} {o : α} {G : Prop} (hs : ifEq x y A B = some o) (kt : R x → x = y → A = some o → G) (kf : R x → ¬ x = y → B = some o → G) : G := by
  obtain ⟨hx, hy, hA, hB⟩ := ifEq_u hs
  by_cases q : x = y
  · exact kt hx q (hA q)
  · exact kf hx q (hB q)
def cpy (s : Sg) (a b n : Nat) : Sg := (fun c j => if c = b ∧ j < n then s.1 a j else s.1 c j, s.2)
theorem gi_cpy (s : Sg) (a b n c j : Nat) : gi (cpy s a b n) c j = if c = b ∧ j < n then gi s a j else gi s c j := rfl
theorem rt17 {i : Int} (h : 0 ≤ i ∧ i < 8) : RT 17 i.toNat = some (18 + 3 * i.toNat) := by
  obtain ⟨n, rfl⟩ := Int.eq_ofNat_of_zero_le h.1
  have hn : n < 8 := by omega
  exact (show ∀ n, n < 8 → RT 17 n = some (18 + 3 * n) by decide) n hn
theorem pos17 {i : Int} (h : 0 ≤ i ∧ i < 8) : isPos (18 + 3 * i.toNat) := by
  obtain ⟨n, rfl⟩ := Int.eq_ofNat_of_zero_le h.1
  have hn : n < 8 := by omega
  exact (show ∀ n, n < 8 → 18 + 3 * n ∈ posL by decide) n hn
section NULLS
variable {p : Program} {l : Launch} {e : Env} {R : Room} {s : State} {m : MethodId} {args : Array Value} {below : List Frame} {meth : Method} {c : Code} {H : Heap} {locs : List Loc} {cells slots : Nat} {Q : State → Prop}
variable {cc : ByteArray} {pc : Nat} {ls : Array Slot} {rest : List Value}
theorem lv_astoreN_n (hexec : p.tables.exec = Jvm.exec) (hb : c.code = cc) {k : Fin 4} {i nL : Nat} {lv lv' : List (Nat × Value)} (hdg : decode cc pc = .ok (.astore_n k, 1)) (hi : (k : Nat) = i) (h : lv_has ls nL lv) (hn : i < nL) (hl : (i, Value.null) :: lv.filter (fun q => !(q.1 == i) && !(q.1 + 1 == i && q.2.category == 2)) = lv')
    (kk : ∀ ls' : Array Slot, lv_has ls' nL lv' → W p l e R s m args below meth c H locs cells slots Q (F0 m (pc + 1) ls' rest)) : W p l e R s m args below meth c H locs cells slots Q (F0 m pc ls (.null :: rest)) := by
  subst hi
  obtain ⟨ls', e', h'⟩ := lv_store1 (v := .null) h hn rfl
  intro T hT X
  obtain ⟨t, a, b⟩ := kk ls' (hl ▸ h') T hT X
  refine ⟨t, ?_, b⟩
  jvm_step X.here [X.here.top, ↓top_set X.here.top, hexec, hb, hdg, e', Value.isRef]
  exact a
theorem lv_ldcfw (hexec : p.tables.exec = Jvm.exec) (hb : c.code = cc) {own : String} {index : Nat} {v : UInt32} (hown : s.vm.findClass own = some m.cls) (hconst : (Jvm.Cond.constantFloat own index v).before args s = true) (hdg : decode cc pc = .ok (.ldc_w index, 3)) (k : W p l e R s m args below meth c H locs cells slots Q (F0 m (pc + 3) ls (.float v :: rest))) : W p l e R s m args below meth c H locs cells slots Q (F0 m pc ls rest) := by
  intro T hT X
  obtain ⟨t, a, b⟩ := k T hT X
  refine ⟨t, ?_, b⟩
  obtain ⟨k, cf, hk, hcf, hcp⟩ := Cond.constantFloat_spec hown hconst
  obtain ⟨k', hk', he⟩ := X.warmed.alike.2.2 _ _ hk
  jvm_step X.here [hexec, hb, hdg, ldc_w.wp_float (s := T) (f := F0 m pc ls rest) X.here.top hk' (by rw [he]; exact hcf) hcp]
  exact a
theorem nfw_le : nativeFrameWords "java/lang/System" "arraycopy" 5 ≤ 51 := by decide +kernel
end NULLS
section XY
variable {C : Cx} {M : Mk} {d mc ms ne : Nat} {Qr : Option Value → Hp → Prop} {Qx : String → Hp → Prop} {nx k n pc : Nat} {lv lv' : List (Nat × Value)} {st stk : List Value} {h : Hp} {s : Sg} {α β : Type} {o : β}
theorem nam_s {g : Sg → Option β} {s0 : Sg} (hs : lett s0 g = some o) (kk : ∀ s', g s' = some o → ww C M d mc ms ne Qr Qx nx k n pc lv st (hp nx s')) : ww C M d mc ms ne Qr Qx nx k n pc lv st (hp nx s0) := kk s0 hs
theorem w_astore_nN {z : Fin 4} {i : Nat} (hd : decode (mB M) pc = .ok (.astore_n z, 1)) (hi : (z : Nat) = i) (hn : i < mL M) (hl : (i, Value.null) :: lv.filter (fun q => !(q.1 == i) && !(q.1 + 1 == i && q.2.category == 2)) = lv') (kk : ww C M d mc ms ne Qr Qx nx k n (pc + 1) lv' st h) : ww C M d mc ms ne Qr Qx nx k n pc lv (.null :: st) h := by
  intro p l e s m args below meth c Fin cz hr hx hzz H locs ls hP hS hL
  refine lv_astoreN_n (lv' := lm C lv') cz.1.1 cz.1.2.1 hd hi hL hn (by subst hl; exact lm_set1 C lv i .null) (fun ls hL => ?_)
  exact kk p l e s m args below meth c Fin cz hr hx hzz H locs ls hP hS hL
theorem w_aload_nN (q : Nat) {z : Fin 4} {i : Nat} (hd : decode (mB M) pc = .ok (.aload_n z, 1)) (hi : (z : Nat) = i) (hl : lv[q]? = some (i, .null)) (kk : ww C M d mc ms ne Qr Qx nx k n (pc + 1) lv (.null :: st) h) : ww C M d mc ms ne Qr Qx nx k n pc lv st h := by
  intro p l e s m args below meth c Fin cz hr hx hzz H locs ls hP hS hL
  exact lv_aload_nN cz.1.1 cz.1.2.1 hd hi (lv_at hL q (lm_at C hl)) (kk p l e s m args below meth c Fin cz hr hx hzz H locs ls hP hS hL)
theorem x_istore_n {z : Fin 4} {i : Nat} {x : Int} {f : Int → Option β} (lv' : Int → List (Nat × Value)) (hs : lett x f = some o) (hd : decode (mB M) pc = .ok (.istore_n z, 1)) (hi : (z : Nat) = i) (hn : i < mL M) (hl : ∀ y, (i, vi y) :: lv.filter (fun q => !(q.1 == i) && !(q.1 + 1 == i && q.2.category == 2)) = lv' y) (kk : ∀ y, f y = some o → ww C M d mc ms ne Qr Qx nx k n (pc + 1) (lv' y) st h) : ww C M d mc ms ne Qr Qx nx k n pc lv (vi x :: st) h := w_istore_n hd hi hn (hl x) (kk x hs)
theorem x_istore {i : Nat} {x : Int} {f : Int → Option β} (lv' : Int → List (Nat × Value)) (hs : lett x f = some o) (hd : decode (mB M) pc = .ok (.istore i, 2)) (hn : i < mL M) (hl : ∀ y, (i, vi y) :: lv.filter (fun q => !(q.1 == i) && !(q.1 + 1 == i && q.2.category == 2)) = lv' y) (kk : ∀ y, f y = some o → ww C M d mc ms ne Qr Qx nx k n (pc + 2) (lv' y) st h) : ww C M d mc ms ne Qr Qx nx k n pc lv (vi x :: st) h := w_istore hd hn (hl x) (kk x hs)
theorem x_lstore_n {z : Fin 4} {i : Nat} {x : Int} {f : Int → Option β} (lv' : Int → List (Nat × Value)) (hs : lett x f = some o) (hd : decode (mB M) pc = .ok (.lstore_n z, 1)) (hi : (z : Nat) = i) (hn : i + 1 < mL M) (hl : ∀ y, (i, vl y) :: lv.filter (fun q => !(q.1 == i) && (!(q.1 == i + 1) && !(q.1 + 1 == i && q.2.category == 2))) = lv' y) (kk : ∀ y, f y = some o → ww C M d mc ms ne Qr Qx nx k n (pc + 1) (lv' y) st h) : ww C M d mc ms ne Qr Qx nx k n pc lv (vl x :: st) h := w_lstore_n hd hi hn (hl x) (kk x hs)
theorem x_lstore {i : Nat} {x : Int} {f : Int → Option β} (lv' : Int → List (Nat × Value)) (hs : lett x f = some o) (hd : decode (mB M) pc = .ok (.lstore i, 2)) (hn : i + 1 < mL M) (hl : ∀ y, (i, vl y) :: lv.filter (fun q => !(q.1 == i) && (!(q.1 == i + 1) && !(q.1 + 1 == i && q.2.category == 2))) = lv' y) (kk : ∀ y, f y = some o → ww C M d mc ms ne Qr Qx nx k n (pc + 2) (lv' y) st h) : ww C M d mc ms ne Qr Qx nx k n pc lv (vl x :: st) h := w_lstore hd hn (hl x) (kk x hs)
theorem w_ldcfw {idx : Nat} (v : UInt32) (hd : decode (mB M) pc = .ok (.ldc_w idx, 3)) (hw : Cond.constantFloat (mY M).cls idx v ∈ lw_all) (kk : ww C M d mc ms ne Qr Qx nx k n (pc + 3) lv (.float v :: st) h) : ww C M d mc ms ne Qr Qx nx k n pc lv st h := by
  intro p l e s m args below meth c Fin cz hr hx hzz H locs ls hP hS hL
  exact lv_ldcfw cz.1.1 cz.1.2.1 cz.1.2.2.2.2 (cz.2.1 _ hw) hd (kk p l e s m args below meth c Fin cz hr hx hzz H locs ls hP hS hL)
theorem x_V_P (M' : Mk) (As : List Value) (st : List Value) {idx d' b ci : Nat} {m : Option Nat} {f : Nat → Option β} (hs : bnd m f = some o) (hst : stk = As.reverse ++ .ref b :: st) (hd : decode (mB M) pc = .ok (.invokevirtual idx, 3)) (hlk : LKV M M' idx As.length) (hb : b < nx) (hsh : shp b = some (.inl ci)) (hci : cR ci = (mY M').cls) (hdd : d' + 1 ≤ d) (hk : k ≤ mc) (hn : n ≤ ms) (hw : (st.map fun v => v.category).sum ≤ 8)
    (hm : ∀ r, m = some r → mm C M' d' 0 0 nx nx (.ref b :: As) (hp nx s) (QA nx s r) XF) (kk : ∀ r, m = some r → f r = some o → ww C M d mc ms ne Qr Qx nx k n (pc + 3) lv (.ref r :: st) (hp nx s)) : ww C M d mc ms ne Qr Qx nx k n pc lv stk (hp nx s) := by
  subst hst
  refine bnd_e hs fun r hr hs => ?_
  refine w_callV M' As hd hlk hb hsh hci hdd hk hn hw (hm r hr) XOK.no (fun v h' hq => ?_)
  obtain ⟨rfl, rfl⟩ := hq
  exact kk r hr hs
theorem x_copy {a b N idx : Nat} {x : Int} (hxN : x = (N : Int)) (ha : shp a = some (.inr (.int, N))) (hla : a < nx) (hb : shp b = some (.inr (.int, N))) (hlb : b < nx) (hd : decode (mB M) pc = .ok (.invokestatic idx, 3)) (hlk : Cond.methodLink (mY M).cls idx arraycopyName ∈ lw_all ∧ Cond.native arraycopyName ∈ lw_all ∧ Cond.static arraycopyName ∈ lw_all ∧ Cond.initialized "java/lang/System" ∈ lw_all) (hdd : 1 ≤ d) (hN : N ≤ 4096) (hnK : KN ≤ nx) (hw : (st.map fun v => v.category).sum ≤ 8) (kk : ww C M d mc ms ne Qr Qx nx k n (pc + 3) lv st (hp nx (cpy s a b N))) : ww C M d mc ms ne Qr Qx nx k n pc lv (vi x :: vi 0 :: .ref b :: vi 0 :: .ref a :: st) (hp nx s) := by
  subst hxN
  intro p l ee s9 m args below meth c Fin cz hr hx hzz H locs ls hP hS hL
  show W p l ee _ s9 m args below meth c H locs k n Fin (F0 m pc ls (vi N :: vi 0 :: .ref (ad C b) :: vi 0 :: .ref (ad C a) :: st.map (up C)))
  rw [ad_lt (shp_lt hb), ad_lt (shp_lt ha)]
  have e0 : (Int32.ofInt 0).toNatClampNeg = 0 := by decide
  have eN : (Int32.ofInt (N : Int)).toNatClampNeg = N := by
    show (Int32.ofInt (N : Int)).toInt.toNat = N
    rw [t32 (by unfold R; omega)]
    exact Int.toNat_natCast N
  have hNn : ¬ Int32.ofInt (N : Int) < 0 := by
    rw [z32, c32l (by unfold R; omega) R0]; omega
  refine va_copyi (cl := vwCl) (ty := .int) cz.1.1 cz.1.2.1 (cz.1.2.2.2.1.trans hL.1.symm) cz.1.2.2.2.2 (cz.2.1 _ hlk.1) (cz.2.1 _ hlk.2.1) (cz.2.1 _ hlk.2.2.1) (cz.2.1 _ hlk.2.2.2) cz.2.2.2.1.1 hP.1 (wl_D C nx (hp nx s)) hS a b 0 0 (by rw [wl_at C nx _ hla, ce_arr C _ ha]; rfl) (by rw [wl_at C nx _ hlb, ce_arr C _ hb]; rfl) rfl rfl rfl (by decide) (by decide) hNn (by rw [e0, eN]; omega) (by rw [e0, eN]; omega) (fun _ _ => rfl) hdd (by have h9 := nfw_le; rw [up_sum]; show _ ≤ 70 * d; omega) hd ?_
  intro H1 locs1 q1 q2 q3
  have key : HPh C nx (hp nx (cpy s a b N)) H1 := by
    obtain ⟨p1, p2, p3, p4, p5, p6⟩ := hP
    have hbK : b < KN := shp_lt hb
    have hK2 : KN = 102 := rfl
    have hnb : ∀ j, j ≠ b → ∀ k, gI (hp nx (cpy s a b N)) j k = gI (hp nx s) j k := fun j hj k => by
      show Int32.ofInt (if j = b ∧ k < N then s.1 a k else s.1 j k) = Int32.ofInt (s.1 j k)
      rw [if_neg (fun e => hj e.1)]
    have hset : (wl C nx (hp nx s)).set b (xB C + b, .inl (xA C .int, N, .inl (va_cpy (gI (hp nx s) a) (gI (hp nx s) b) (Int32.ofInt 0).toNatClampNeg (Int32.ofInt 0).toNatClampNeg (Int32.ofInt (N : Int)).toNatClampNeg))) = wl C nx (hp nx (cpy s a b N)) := by
      rw [← wl_set C nx (hp nx s) (hp nx (cpy s a b N)) b (fun j hj => ce_congr C _ _ j (hnb j hj) (fun _ => rfl) (fun _ => rfl) (fun _ => rfl))]
      congr 2
      rw [ce_arr C _ hb, e0, eN]
      show (Sum.inl (xA C .int, N, Sum.inl _) : va_E) = Sum.inl (xA C .int, N, Sum.inl (gI (hp nx (cpy s a b N)) b))
      congr 4
      funext q
      show (if 0 ≤ q ∧ q < 0 + N then Int32.ofInt (s.1 a (0 + (q - 0))) else Int32.ofInt (s.1 b q)) = Int32.ofInt (if b = b ∧ q < N then s.1 a q else s.1 b q)
      by_cases hq : q < N
      · rw [if_pos ⟨Nat.zero_le _, by omega⟩, if_pos ⟨rfl, hq⟩]; simp
      · rw [if_neg (by omega), if_neg (by omega)]
    rw [hset] at q1
    have hz : xB C + nx ≤ H1.size := by
      have h9 := (q1 (nx - 1) _ (wl_at C nx _ (i := nx - 1) (by omega))).lt
      simp only at h9
      omega
    refine ⟨q1, fun i hi j => ?_, hz, fun hn => ?_, p5, fun i h1 h2 j => ?_⟩
    · rw [hnb i (by omega) j]; exact p2 i hi j
    · omega
    · rw [hnb i (by omega) j]; exact p6 i h1 h2 j
  exact kk p l ee s9 m args below meth c Fin cz hr hx hzz H1 locs1 ls key q3 hL

end XY

def slen (w : Nat) : Int := (wlen w : Int)
def schr (w : Nat) (i : Int) : Int := wch w i.toNat
/-- one less, as an int counts -/
def dec32 (x : Int) : Int := (Int32.ofInt (x + (-1))).toInt
theorem vi_dec (x : Int) : vi (dec32 x) = vi (x + (-1)) := by
  show Value.int (Int32.ofInt (Int32.ofInt (x + (-1))).toInt) = _
  rw [Int32.ofInt_toInt]

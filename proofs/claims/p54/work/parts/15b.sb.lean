/-! ===== rules for what lies behind the class's objects ===== -/
theorem zE {x : Int} (h : R x) : Int32.ofInt x = 0 ↔ x = 0 := by rw [z32]; exact c32e h R0
theorem zLt {x : Int} (h : R x) : Int32.ofInt x < 0 ↔ x < 0 := by rw [z32]; exact c32l h R0
theorem zGt {x : Int} (h : R x) : 0 < Int32.ofInt x ↔ 0 < x := by rw [z32]; exact c32l R0 h
theorem zGe {x : Int} (h : R x) : 0 ≤ Int32.ofInt x ↔ 0 ≤ x := by rw [z32]; exact c32m R0 h
theorem zLe {x : Int} (h : R x) : Int32.ofInt x ≤ 0 ↔ x ≤ 0 := by rw [z32]; exact c32m h R0
theorem ishl0 {x : Int} (h : R x) : ishlI x 0 = x := by
  unfold ishlI
  rw [show (Int32.ofInt 0 &&& 31 : Int32) = 0 by decide, show Int32.ofInt x <<< (0 : Int32) = Int32.ofInt x by simp]
  exact t32 h
theorem ishr0 {x : Int} (h : R x) : ishrI x 0 = x := by
  unfold ishrI
  rw [show (Int32.ofInt 0 &&& 31 : Int32) = 0 by decide, show Int32.ofInt x >>> (0 : Int32) = Int32.ofInt x by simp]
  exact t32 h
theorem Met_of_vx {l : Launch} {y : MethodName} {ws : List Cond} {rm : Room} {Pc : Array Value → State → Prop} {Qc : Array Value → State → Outcome → State → Prop} {XC : String → State → State → Prop} {mc ms : Nat} {free : Addr → Prop} (h : vx_Met l y ws rm Pc Qc XC mc ms free) (hx : ∀ E st t, ¬ XC E st t) : Met l y ws rm Pc Qc mc ms free := by
  intro p e ha hc hk s m args below hf happ hP ht
  obtain ⟨k, o, h1, h2, h3, hQ⟩ := h p e ha hc hk s m args below hf happ hP ht
  refine ⟨k, o, h1, h2, h3, ?_⟩
  rcases hQ with hQ | ⟨q, -, E, ce, locs, hX, -⟩
  · exact hQ
  · exact absurd hX (hx _ _ _)
/-- a call on a StringBuilder of a method that it inherits, overrides or that is private to its superclass -/
def LKU (M M' : Mk) (idx na : Nat) (X : MethodName) : Prop := LK0 M' na ∧ (X.cls ≠ "java/lang/invoke/MethodHandle" ∧ X.cls ≠ "java/lang/invoke/VarHandle" ∧ (parseMethodDescriptor X.desc).map (fun d => d.parameters.length) = some na) ∧ Cond.methodLink (mY M).cls idx X ∈ lw_all ∧ Cond.sameMethod X.cls X.cls X.name X.desc ∈ lw_all ∧ (Cond.instanceMethod X ∈ lw_all ∧ ∃ (b0 : ByteArray) (m0 : Nat) (r0 : Option FieldType), Cond.code X b0 m0 r0 ∈ lw_all) ∧ Cond.selects "java/lang/StringBuilder" X (mY M') ∈ lw_all ∧ Cond.instanceMethod (mY M') ∈ lw_all
/-- a call of the superclass's own method -/
def LKQ (M M' : Mk) (idx na : Nat) : Prop := LK0 M' na ∧ (mY M').name ≠ "<init>" ∧ Cond.methodLink (mY M).cls idx (mY M') ∈ lw_all ∧ Cond.sameMethod (mY M').cls (mY M').cls (mY M').name (mY M').desc ∈ lw_all ∧ Cond.superclass (mY M).cls (mY M').cls ∈ lw_all ∧ Cond.instanceMethod (mY M') ∈ lw_all
section DX
variable {C : Cx} {M : Mk} {d mc ms ne : Nat} {Qr : Option Value → Hp → Prop} {Qx : String → Hp → Prop} {nx k n pc : Nat} {lv lv' : List (Nat × Value)} {st stk : List Value} {h : Hp} {s : Sg}
theorem xe_getI (ci f : Nat) {idx a : Nat} {x : Int} (hd : decode (mB M) pc = .ok (.getfield idx, 3)) (hf : FL M idx ci f) (hty : isI (cty ci f) = true) (hs : shC C a = some (.inl ci)) (ha : a < nx) (hx : gi s a f = x) (kk : ww C M d mc ms ne Qr Qx nx k n (pc + 3) lv (vi x :: st) (hp nx s)) : ww C M d mc ms ne Qr Qx nx k n pc lv (.ref a :: st) (hp nx s) := by
  subst hx
  exact w_getI ci f hd hf hty hs ha kk
theorem xe_getR (ci f : Nat) {idx a b : Nat} (hd : decode (mB M) pc = .ok (.getfield idx, 3)) (hf : FL M idx ci f) (hty : isR (cty ci f) = true) (hs : shC C a = some (.inl ci)) (ha : a < nx) (hK : KN ≤ a) (hb : b ≠ 0) (hg : gd s a f = b) (kk : ww C M d mc ms ne Qr Qx nx k n (pc + 3) lv (.ref b :: st) (hp nx s)) : ww C M d mc ms ne Qr Qx nx k n pc lv (.ref a :: st) (hp nx s) :=
  w_getR ci f hd hf hty hs ha (hpD ha hK hb hg) kk
theorem xe_putI (ci f : Nat) {idx a : Nat} {x : Int} (hd : decode (mB M) pc = .ok (.putfield idx, 3)) (hf : putOK M idx ci f) (hty : cty ci f = .int) (hs : shC C a = some (.inl ci)) (ha : a < nx) (kk : ww C M d mc ms ne Qr Qx nx k n (pc + 3) lv st (hp nx (si s a f x))) : ww C M d mc ms ne Qr Qx nx k n pc lv (vi x :: .ref a :: st) (hp nx s) :=
  w_putI ci f hd hf (by rw [hty]; rfl) hs ha (by rw [hty]; rfl) (by rw [hty]; rfl) (by rw [hp_si]; exact kk)
theorem xe_putB (ci f : Nat) {idx a : Nat} (hd : decode (mB M) pc = .ok (.putfield idx, 3)) (hf : putOK M idx ci f) (hty : cty ci f = .byte) (hs : shC C a = some (.inl ci)) (ha : a < nx) (kk : ww C M d mc ms ne Qr Qx nx k n (pc + 3) lv st (hp nx (si s a f 0))) : ww C M d mc ms ne Qr Qx nx k n pc lv (vi 0 :: .ref a :: st) (hp nx s) :=
  w_putI ci f hd hf (by rw [hty]; rfl) hs ha (by rw [hty]; rfl) (by rw [hty]; rfl) (by rw [hp_si]; exact kk)
theorem xe_putR (ci f : Nat) {idx a b : Nat} (hd : decode (mB M) pc = .ok (.putfield idx, 3)) (hf : putOK M idx ci f) (hty : isR (cty ci f) = true) (hs : shC C a = some (.inl ci)) (ha : a < nx) (hK : KN ≤ a) (hb : b ≠ 0) (kk : ww C M d mc ms ne Qr Qx nx k n (pc + 3) lv st (hp nx (sd s a f b))) : ww C M d mc ms ne Qr Qx nx k n pc lv (.ref b :: .ref a :: st) (hp nx s) :=
  w_putR ci f hd hf hty hs ha (by rw [hp_sr ha hK hb]; exact kk)
theorem xe_blen {a m1 : Nat} (hd : decode (mB M) pc = .ok (.arraylength, 1)) (hs : shC C a = some (.inr (.byte, m1))) (ha : a < nx) (kk : ww C M d mc ms ne Qr Qx nx k n (pc + 1) lv (vi (m1 : Int) :: st) h) : ww C M d mc ms ne Qr Qx nx k n pc lv (.ref a :: st) h := by
  intro p l e s9 m args below meth c Fin cz hr hx hzz H locs ls hP hS hL
  show W p l e _ s9 m args below meth c H locs k n Fin (F0 m pc ls (.ref (ad C a) :: st.map (up C)))
  rw [ad_l9 (hP9 hP ha)]
  have h9 := kk p l e s9 m args below meth c Fin cz hr hx hzz H locs ls hP hS hL
  rw [List.map_cons, up_int, Int32.ofInt_eq_ofNat] at h9
  exact va_alen (cl := vwCl) (ty := .byte) (x := (m1, ac C h a .byte)) cz.1.1 cz.1.2.1 cz.2.2.2.1.1 hP.1 a 2 (by rw [wl_at C nx h ha, ce_arrC C h hs]) rfl rfl hd h9
theorem w_dupx1 {v w : Value} (hd : decode (mB M) pc = .ok (.dup_x1, 1)) (hv : v.category = 1) (hw : w.category = 1) (kk : ww C M d mc ms ne Qr Qx nx k n (pc + 1) lv (v :: w :: v :: st) h) : ww C M d mc ms ne Qr Qx nx k n pc lv (v :: w :: st) h := by
  intro p l e s9 m args below meth c Fin cz hr hx hzz H locs ls hP hS hL
  exact lv_dup_x1 cz.1.1 cz.1.2.1 hd (by rw [up_cat]; exact hv) (by rw [up_cat]; exact hw) (kk p l e s9 m args below meth c Fin cz hr hx hzz H locs ls hP hS hL)
theorem xe_ineg {x : Int} (hd : decode (mB M) pc = .ok (.ineg, 1)) (kk : ww C M d mc ms ne Qr Qx nx k n (pc + 1) lv (vi (-x) :: st) h) : ww C M d mc ms ne Qr Qx nx k n pc lv (vi x :: st) h := by
  intro p l e s9 m args below meth c Fin cz hr hx hzz H locs ls hP hS hL
  have h9 := kk p l e s9 m args below meth c Fin cz hr hx hzz H locs ls hP hS hL
  rw [List.map_cons, up_int, Int32.ofInt_neg] at h9
  exact lv_ineg cz.1.1 cz.1.2.1 hd h9
theorem xe_ldc1 {idx : Nat} (x : Int) (hd : decode (mB M) pc = .ok (.ldc idx, 2)) (hw : Cond.constant (mY M).cls idx (Int32.ofInt x) ∈ lw_all) (kk : ww C M d mc ms ne Qr Qx nx k n (pc + 2) lv (vi x :: st) h) : ww C M d mc ms ne Qr Qx nx k n pc lv st h := w_ldc _ hd hw kk
theorem hr_fin {p : Program} {l : Launch} {e : Env} {R : Room} {s : State} {m : MethodId} {args : Array Value} {below : List Frame} {meth : Method} {c : Code} {H : Heap} {locs : List Loc} {cells slots mc' ms' : Nat} {Q : State → Prop} {pc : Nat} {ls : Array Slot} {st0 rest : List Value} {a : Array Value} {ne' : Nat} {Qr' : Option Value → Hp → Prop}
    (hr : va_Run p l e R s m args below meth c H locs cells slots mc' ms' (F0 m pc ls st0) rest (QC C ne' Qr' a) (xAl C)) (hS : va_S (xAl C) s.heap H locs)
    (kk : ∀ (v : Option Value) (h' : Hp) (H1 : Heap) (locs1 : List Loc), Qr' v h' → HPh C ne' h' H1 → va_S (xAl C) s.heap H1 locs1 → W p l e R s m args below meth c H1 locs1 (cells + mc') (slots + ms') Q (F0 m (pc + 3) ls ((v.map (up C)).toList ++ rest))) :
    W p l e R s m args below meth c H locs cells slots Q (F0 m pc ls st0) := by
  intro T hT X
  obtain ⟨v, st₀, t, T', L, h0, X', hL, e1, e2, ⟨v', h', hv, hq, hP, hF⟩, st⟩ := hr T hT X
  cases hv
  obtain ⟨k1, k2, k3⟩ := vx_keep h0 e1 hS (fun q _ z => z) (fun q z => z) hL hF
  obtain ⟨t2, a1, b1⟩ := kk v' h' T'.heap (locs ++ L) hq (by rw [e1]; exact hP) k3 T' rfl X'
  exact ⟨t2, st t2 a1, b1⟩
theorem hr_recv {nx b : Nat} {h : Hp} {H : Heap} {U : State} (hK : va_K (xD C) vwCl (tyl C) U) (hP : HPh C nx h H) (hb : b < nx) (hs : shC C b = some (.inl 13)) : ∃ cell : Cell, H[ad C b]? = some cell ∧ cell.vm.isStatics = false ∧ U.vm.findClass "java/lang/StringBuilder" = some cell.cls := by
  have h9 := va_recv hK hP.1 (cl_at (shC_cls hP hs)) (by rw [wl_at C nx h hb, ce_objC C h hs] : (wl C nx h)[b]? = some (xB C + b, _))
  rw [show ad C b = xB C + b from ad_l9 (hP9 hP hb)]
  exact h9
theorem w_callU (M' : Mk) (X : MethodName) (As : List Value) {idx d' mc' ms' ne' b : Nat} {Qr' : Option Value → Hp → Prop} (hd : decode (mB M) pc = .ok (.invokevirtual idx, 3)) (hlk : LKU M M' idx As.length X) (hb : b < nx) (hs : shC C b = some (.inl 13)) (hdd : d' + 1 ≤ d) (hk : k + mc' ≤ mc) (hn : n + ms' ≤ ms) (hw : (st.map fun v => v.category).sum ≤ 8)
    (hm : mm C M' d' mc' ms' nx ne' (.ref b :: As) h Qr' XF)
    (kk : ∀ v h', Qr' v h' → ww C M d mc ms ne Qr Qx ne' (k + mc') (n + ms') (pc + 3) lv (v.toList ++ st) h') : ww C M d mc ms ne Qr Qx nx k n pc lv (As.reverse ++ .ref b :: st) h := by
  intro p l e s9 m args below meth c Fin cz hr hx hzz H locs ls hP hS hL
  have hrm : (rmF d' mc' ms').frames + 1 ≤ (rmF d mc ms).frames ∧ 8 + (mL M' + 11) + (rmF d' mc' ms').locals ≤ (rmF d mc ms).locals := ⟨hdd, by
    have := hlk.1.2.2.2
    show 8 + (mL M' + 11) + 70 * d' ≤ 70 * d
    omega⟩
  have hG : GoodIn lw_all (mW M') := goodAll (mW_sub hlk.1.2.1)
  have hcont : ∀ (v : Option Value) (h' : Hp) (H1 : Heap) (locs1 : List Loc), Qr' v h' → HPh C ne' h' H1 → va_S (xAl C) s9.heap H1 locs1 → W p l e (rmF d mc ms) s9 m args below meth c H1 locs1 (k + mc') (n + ms') Fin (F0 m (pc + 3) ls ((v.map (up C)).toList ++ st.map (up C))) := by
    intro v h' H1 locs1 g1 g2 g3
    rw [up_app]
    exact kk v h' g1 p l e s9 m args below meth c Fin cz hr hx hzz H1 locs1 ls g2 g3 hL
  have hfix : CallFix p m c (mB M) (mL M) s9 args lw_all (mY M).cls := ⟨cz.1.1, cz.1.2.1, cz.1.2.2.2.1, cz.1.2.2.2.2, cz.2.1⟩
  have hcw : va_CU (rmF d mc ms) s9 args (mY M).cls "java/lang/StringBuilder" X.cls idx X (mY M') (mB M') (mL M') (mR M') (mW M') (rmF d' mc' ms') mc' ms' As.length := by
    obtain ⟨b0, m0, r0, hcd⟩ := hlk.2.2.2.2.1.2
    exact ⟨⟨rfl, rfl, hrm.1, hrm.2, pay_in cz.2.1 hG, List.mem_cons_self⟩, cz.2.1 _ hlk.1.2.1, cz.2.1 _ hlk.1.1, ⟨hlk.2.1.1, hlk.2.1.2.1⟩, fun sig hsg => by
      have h2 := hlk.2.1.2.2
      rw [hsg] at h2
      exact (Option.some.inj h2).symm, cz.2.1 _ hlk.2.2.1, cz.2.1 _ hlk.2.2.2.1, va_Decl.of (cz.2.1 _ hlk.2.2.2.2.1.1) (cz.2.1 _ hcd), cz.2.1 _ hlk.2.2.2.2.2.1, cz.2.1 _ hlk.2.2.2.2.2.2⟩
  refine hr_fin (va_runU (As := As.map (up C)) (rest := st.map (up C)) hfix (Met_of_vx (hm l cz.2.2.1.2.2.1) (fun E st t q => by
    obtain ⟨h', hf, -⟩ := q
    exact hf)) hcw ⟨PB_blind, hr_recv cz.2.2.2.1.1 hP hb hs, fun U hU hW9 => ⟨rfl, PB_now cz hP hS U hU hW9⟩⟩ rfl (List.length_map ..) hL.1 (by show (As.reverse ++ .ref b :: st).map (up C) = _; rw [List.map_append, List.map_reverse]; rfl) (lv_room (by rw [up_sum]; exact hw)) hd ⟨hk, hn⟩) hS hcont
theorem w_callQ (M' : Mk) (As : List Value) {idx d' mc' ms' ne' b : Nat} {Qr' : Option Value → Hp → Prop} (hd : decode (mB M) pc = .ok (.invokespecial idx, 3)) (hlk : LKQ M M' idx As.length) (hb : b < nx) (hs : shC C b = some (.inl 13)) (hdd : d' + 1 ≤ d) (hk : k + mc' ≤ mc) (hn : n + ms' ≤ ms) (hw : (st.map fun v => v.category).sum ≤ 8)
    (hm : mm C M' d' mc' ms' nx ne' (.ref b :: As) h Qr' XF)
    (kk : ∀ v h', Qr' v h' → ww C M d mc ms ne Qr Qx ne' (k + mc') (n + ms') (pc + 3) lv (v.toList ++ st) h') : ww C M d mc ms ne Qr Qx nx k n pc lv (As.reverse ++ .ref b :: st) h := by
  intro p l e s9 m args below meth c Fin cz hr hx hzz H locs ls hP hS hL
  have hrm : (rmF d' mc' ms').frames + 1 ≤ (rmF d mc ms).frames ∧ 8 + (mL M' + 11) + (rmF d' mc' ms').locals ≤ (rmF d mc ms).locals := ⟨hdd, by
    have := hlk.1.2.2.2
    show 8 + (mL M' + 11) + 70 * d' ≤ 70 * d
    omega⟩
  have hG : GoodIn lw_all (mW M') := goodAll (mW_sub hlk.1.2.1)
  have hcont : ∀ (v : Option Value) (h' : Hp) (H1 : Heap) (locs1 : List Loc), Qr' v h' → HPh C ne' h' H1 → va_S (xAl C) s9.heap H1 locs1 → W p l e (rmF d mc ms) s9 m args below meth c H1 locs1 (k + mc') (n + ms') Fin (F0 m (pc + 3) ls ((v.map (up C)).toList ++ st.map (up C))) := by
    intro v h' H1 locs1 g1 g2 g3
    rw [up_app]
    exact kk v h' g1 p l e s9 m args below meth c Fin cz hr hx hzz H1 locs1 ls g2 g3 hL
  have hfix : CallFix p m c (mB M) (mL M) s9 args lw_all (mY M).cls := ⟨cz.1.1, cz.1.2.1, cz.1.2.2.2.1, cz.1.2.2.2.2, cz.2.1⟩
  have hcw : va_CS (rmF d mc ms) s9 args (mY M).cls idx (mY M') (mB M') (mL M') (mR M') (mW M') (rmF d' mc' ms') mc' ms' As.length := by
    exact ⟨⟨rfl, rfl, hrm.1, hrm.2, pay_in cz.2.1 hG, List.mem_cons_self⟩, cz.2.1 _ hlk.2.2.1, cz.2.1 _ hlk.2.2.2.1, cz.2.1 _ hlk.2.2.2.2.1, cz.2.1 _ hlk.2.2.2.2.2, cz.2.1 _ hlk.1.1, cz.2.1 _ hlk.1.2.1, hlk.2.1, fun sig hsg => by
      have h2 := hlk.1.2.2.1.2.2
      rw [hsg] at h2
      exact (Option.some.inj h2).symm⟩
  refine hr_fin (va_runSU (C := "java/lang/StringBuilder") (As := As.map (up C)) (rest := st.map (up C)) (cz.2.2.2.1.1.1 13 _ (cl_at (by decide))).2 hfix (Met_of_vx (hm l cz.2.2.1.2.2.1) (fun E st t q => by
    obtain ⟨h', hf, -⟩ := q
    exact hf)) hcw ⟨PB_blind, hr_recv cz.2.2.2.1.1 hP hb hs, fun U hU hW9 => ⟨rfl, PB_now cz hP hS U hU hW9⟩⟩ rfl (List.length_map ..) hL.1 (by show (As.reverse ++ .ref b :: st).map (up C) = _; rw [List.map_append, List.map_reverse]; rfl) (lv_room (by rw [up_sum]; exact hw)) hd ⟨hk, hn⟩) hS hcont
theorem w_wid {k2 n2 : Nat} (h1 : k ≤ k2) (h2 : n ≤ n2) (kk : ww C M d mc ms ne Qr Qx nx k2 n2 pc lv st h) : ww C M d mc ms ne Qr Qx nx k n pc lv st h := by
  intro p l e s9 m args below meth c Fin cz hr hx hzz H locs ls hP hS hL
  exact W.widen h1 h2 (kk p l e s9 m args below meth c Fin cz hr hx hzz H locs ls hP hS hL)
end DX
abbrev MJ_aL1 : Mk := (yJ5_isLatin1_aae02, cJ5_isLatin1_aae02, 1, (some .boolean), [])
theorem cw_aL1 : Cond.code (mY MJ_aL1) (mB MJ_aL1) (mL MJ_aL1) (mR MJ_aL1) ∈ lw_all := (lw_all_mem (List.mem_append_right _ (List.mem_of_getElem? (i := 506) (by decide +kernel))) (by decide +kernel))
theorem lk0J_aL1 : LK0 MJ_aL1 0 := ⟨(lw_all_mem (List.mem_append_right _ (List.mem_of_getElem? (i := 14) (by decide +kernel))) (by decide +kernel)), cw_aL1, ⟨by decide +kernel, by decide +kernel, by decide +kernel⟩, by decide +kernel⟩
abbrev MJ_aVal : Mk := (yJ5_getValue_6d5f1, cJ5_getValue_6d5f1, 1, (some (.array .byte)), [])
theorem cw_aVal : Cond.code (mY MJ_aVal) (mB MJ_aVal) (mL MJ_aVal) (mR MJ_aVal) ∈ lw_all := (lw_all_mem (List.mem_append_right _ (List.mem_of_getElem? (i := 652) (by decide +kernel))) (by decide +kernel))
theorem lk0J_aVal : LK0 MJ_aVal 0 := ⟨(lw_all_mem (List.mem_append_right _ (List.mem_of_getElem? (i := 14) (by decide +kernel))) (by decide +kernel)), cw_aVal, ⟨by decide +kernel, by decide +kernel, by decide +kernel⟩, by decide +kernel⟩
abbrev MJ_aLen : Mk := (yJ5_length_8abf5, cJ5_length_8abf5, 1, (some .int), [])
theorem cw_aLen : Cond.code (mY MJ_aLen) (mB MJ_aLen) (mL MJ_aLen) (mR MJ_aLen) ∈ lw_all := (lw_all_mem (List.mem_append_right _ (List.mem_of_getElem? (i := 660) (by decide +kernel))) (by decide +kernel))
theorem lk0J_aLen : LK0 MJ_aLen 0 := ⟨(lw_all_mem (List.mem_append_right _ (List.mem_of_getElem? (i := 14) (by decide +kernel))) (by decide +kernel)), cw_aLen, ⟨by decide +kernel, by decide +kernel, by decide +kernel⟩, by decide +kernel⟩
abbrev MJ_sLen : Mk := (yJ4_length_8abf5, cJ4_length_8abf5, 1, (some .int), [])
theorem cw_sLen : Cond.code (mY MJ_sLen) (mB MJ_sLen) (mL MJ_sLen) (mR MJ_sLen) ∈ lw_all := (lw_all_mem (List.mem_append_right _ (List.mem_of_getElem? (i := 658) (by decide +kernel))) (by decide +kernel))
theorem lk0J_sLen : LK0 MJ_sLen 0 := ⟨(lw_all_mem (List.mem_append_right _ (List.mem_of_getElem? (i := 15) (by decide +kernel))) (by decide +kernel)), cw_sLen, ⟨by decide +kernel, by decide +kernel, by decide +kernel⟩, by decide +kernel⟩
abbrev MJ_inf : Mk := (yJ5_inflateIfNeededFor_a7421, cJ5_inflateIfNeededFor_a7421, 2, none, [])
theorem cw_inf : Cond.code (mY MJ_inf) (mB MJ_inf) (mL MJ_inf) (mR MJ_inf) ∈ lw_all := (lw_all_mem (List.mem_append_right _ (List.mem_of_getElem? (i := 541) (by decide +kernel))) (by decide +kernel))
theorem lk0J_inf : LK0 MJ_inf 1 := ⟨(lw_all_mem (List.mem_append_right _ (List.mem_of_getElem? (i := 14) (by decide +kernel))) (by decide +kernel)), cw_inf, ⟨by decide +kernel, by decide +kernel, by decide +kernel⟩, by decide +kernel⟩
abbrev MJ_put : Mk := (yJ5_putStringAt_47b60, cJ5_putStringAt_47b60, 3, none, [])
theorem cw_put : Cond.code (mY MJ_put) (mB MJ_put) (mL MJ_put) (mR MJ_put) ∈ lw_all := (lw_all_mem (List.mem_append_right _ (List.mem_of_getElem? (i := 537) (by decide +kernel))) (by decide +kernel))
theorem lk0J_put : LK0 MJ_put 2 := ⟨(lw_all_mem (List.mem_append_right _ (List.mem_of_getElem? (i := 14) (by decide +kernel))) (by decide +kernel)), cw_put, ⟨by decide +kernel, by decide +kernel, by decide +kernel⟩, by decide +kernel⟩
abbrev MJ_ens : Mk := (yJ5_ensureCapacityInternal_d00df, cJ5_ensureCapacityInternal_d00df, 3, none, [])
theorem cw_ens : Cond.code (mY MJ_ens) (mB MJ_ens) (mL MJ_ens) (mR MJ_ens) ∈ lw_all := (lw_all_mem (List.mem_append_right _ (List.mem_of_getElem? (i := 473) (by decide +kernel))) (by decide +kernel))
theorem lk0J_ens : LK0 MJ_ens 1 := ⟨(lw_all_mem (List.mem_append_right _ (List.mem_of_getElem? (i := 14) (by decide +kernel))) (by decide +kernel)), cw_ens, ⟨by decide +kernel, by decide +kernel, by decide +kernel⟩, by decide +kernel⟩
abbrev MJ_cap : Mk := (yJ5_newCapacity_0f7a4, cJ5_newCapacity_0f7a4, 6, (some .int), [])
theorem cw_cap : Cond.code (mY MJ_cap) (mB MJ_cap) (mL MJ_cap) (mR MJ_cap) ∈ lw_all := (lw_all_mem (List.mem_append_right _ (List.mem_of_getElem? (i := 477) (by decide +kernel))) (by decide +kernel))
theorem lk0J_cap : LK0 MJ_cap 1 := ⟨(lw_all_mem (List.mem_append_right _ (List.mem_of_getElem? (i := 14) (by decide +kernel))) (by decide +kernel)), cw_cap, ⟨by decide +kernel, by decide +kernel, by decide +kernel⟩, by decide +kernel⟩
abbrev MJ_apS : Mk := (yJ5_append_cf1ce, cJ5_append_cf1ce, 3, (some (.object "java/lang/AbstractStringBuilder")), [])
theorem cw_apS : Cond.code (mY MJ_apS) (mB MJ_apS) (mL MJ_apS) (mR MJ_apS) ∈ lw_all := (lw_all_mem (List.mem_append_right _ (List.mem_of_getElem? (i := 465) (by decide +kernel))) (by decide +kernel))
theorem lk0J_apS : LK0 MJ_apS 1 := ⟨(lw_all_mem (List.mem_append_right _ (List.mem_of_getElem? (i := 14) (by decide +kernel))) (by decide +kernel)), cw_apS, ⟨by decide +kernel, by decide +kernel, by decide +kernel⟩, by decide +kernel⟩
abbrev MJ_apC : Mk := (yJ5_append_3fe6f, cJ5_append_3fe6f, 2, (some (.object "java/lang/AbstractStringBuilder")), [])
theorem cw_apC : Cond.code (mY MJ_apC) (mB MJ_apC) (mL MJ_apC) (mR MJ_apC) ∈ lw_all := (lw_all_mem (List.mem_append_right _ (List.mem_of_getElem? (i := 617) (by decide +kernel))) (by decide +kernel))
theorem lk0J_apC : LK0 MJ_apC 1 := ⟨(lw_all_mem (List.mem_append_right _ (List.mem_of_getElem? (i := 14) (by decide +kernel))) (by decide +kernel)), cw_apC, ⟨by decide +kernel, by decide +kernel, by decide +kernel⟩, by decide +kernel⟩
abbrev MJ_apI : Mk := (yJ5_append_c97b9, cJ5_append_c97b9, 4, (some (.object "java/lang/AbstractStringBuilder")), [])
theorem cw_apI : Cond.code (mY MJ_apI) (mB MJ_apI) (mL MJ_apI) (mR MJ_apI) ∈ lw_all := (lw_all_mem (List.mem_append_right _ (List.mem_of_getElem? (i := 587) (by decide +kernel))) (by decide +kernel))
theorem lk0J_apI : LK0 MJ_apI 1 := ⟨(lw_all_mem (List.mem_append_right _ (List.mem_of_getElem? (i := 14) (by decide +kernel))) (by decide +kernel)), cw_apI, ⟨by decide +kernel, by decide +kernel, by decide +kernel⟩, by decide +kernel⟩
abbrev MJ_aNew : Mk := (yJ5_init_a7421, cJ5_init_a7421, 5, none, [])
theorem cw_aNew : Cond.code (mY MJ_aNew) (mB MJ_aNew) (mL MJ_aNew) (mR MJ_aNew) ∈ lw_all := (lw_all_mem (List.mem_append_right _ (List.mem_of_getElem? (i := 431) (by decide +kernel))) (by decide +kernel))
theorem lk0J_aNew : LK0 MJ_aNew 1 := ⟨(lw_all_mem (List.mem_append_right _ (List.mem_of_getElem? (i := 14) (by decide +kernel))) (by decide +kernel)), cw_aNew, ⟨by decide +kernel, by decide +kernel, by decide +kernel⟩, by decide +kernel⟩
abbrev MJ_sNew : Mk := (yJ4_init_a7421, cJ4_init_a7421, 2, none, [])
theorem cw_sNew : Cond.code (mY MJ_sNew) (mB MJ_sNew) (mL MJ_sNew) (mR MJ_sNew) ∈ lw_all := (lw_all_mem (List.mem_append_right _ (List.mem_of_getElem? (i := 428) (by decide +kernel))) (by decide +kernel))
theorem lk0J_sNew : LK0 MJ_sNew 1 := ⟨(lw_all_mem (List.mem_append_right _ (List.mem_of_getElem? (i := 15) (by decide +kernel))) (by decide +kernel)), cw_sNew, ⟨by decide +kernel, by decide +kernel, by decide +kernel⟩, by decide +kernel⟩
abbrev MJ_bS : Mk := (yJ4_append_15ec4, cJ4_append_15ec4, 2, (some (.object "java/lang/StringBuilder")), [])
theorem cw_bS : Cond.code (mY MJ_bS) (mB MJ_bS) (mL MJ_bS) (mR MJ_bS) ∈ lw_all := (lw_all_mem (List.mem_append_right _ (List.mem_of_getElem? (i := 462) (by decide +kernel))) (by decide +kernel))
theorem lk0J_bS : LK0 MJ_bS 1 := ⟨(lw_all_mem (List.mem_append_right _ (List.mem_of_getElem? (i := 15) (by decide +kernel))) (by decide +kernel)), cw_bS, ⟨by decide +kernel, by decide +kernel, by decide +kernel⟩, by decide +kernel⟩
abbrev MJ_bC : Mk := (yJ4_append_cf468, cJ4_append_cf468, 2, (some (.object "java/lang/StringBuilder")), [])
theorem cw_bC : Cond.code (mY MJ_bC) (mB MJ_bC) (mL MJ_bC) (mR MJ_bC) ∈ lw_all := (lw_all_mem (List.mem_append_right _ (List.mem_of_getElem? (i := 614) (by decide +kernel))) (by decide +kernel))
theorem lk0J_bC : LK0 MJ_bC 1 := ⟨(lw_all_mem (List.mem_append_right _ (List.mem_of_getElem? (i := 15) (by decide +kernel))) (by decide +kernel)), cw_bC, ⟨by decide +kernel, by decide +kernel, by decide +kernel⟩, by decide +kernel⟩
abbrev MJ_bI : Mk := (yJ4_append_bf812, cJ4_append_bf812, 2, (some (.object "java/lang/StringBuilder")), [])
theorem cw_bI : Cond.code (mY MJ_bI) (mB MJ_bI) (mL MJ_bI) (mR MJ_bI) ∈ lw_all := (lw_all_mem (List.mem_append_right _ (List.mem_of_getElem? (i := 584) (by decide +kernel))) (by decide +kernel))
theorem lk0J_bI : LK0 MJ_bI 1 := ⟨(lw_all_mem (List.mem_append_right _ (List.mem_of_getElem? (i := 15) (by decide +kernel))) (by decide +kernel)), cw_bI, ⟨by decide +kernel, by decide +kernel, by decide +kernel⟩, by decide +kernel⟩
abbrev MJ_bA : Mk := (yJ4_append_cf1ce, cJ4_append_cf1ce, 2, (some (.object "java/lang/AbstractStringBuilder")), [])
theorem cw_bA : Cond.code (mY MJ_bA) (mB MJ_bA) (mL MJ_bA) (mR MJ_bA) ∈ lw_all := (lw_all_mem (List.mem_append_right _ (List.mem_of_getElem? (i := 458) (by decide +kernel))) (by decide +kernel))
theorem lk0J_bA : LK0 MJ_bA 1 := ⟨(lw_all_mem (List.mem_append_right _ (List.mem_of_getElem? (i := 15) (by decide +kernel))) (by decide +kernel)), cw_bA, ⟨by decide +kernel, by decide +kernel, by decide +kernel⟩, by decide +kernel⟩
abbrev MJ_toS : Mk := (yJ4_toString_0e30d, cJ4_toString_0e30d, 1, (some (.object "java/lang/String")), [])
theorem cw_toS : Cond.code (mY MJ_toS) (mB MJ_toS) (mL MJ_toS) (mR MJ_toS) ∈ lw_all := (lw_all_mem (List.mem_append_right _ (List.mem_of_getElem? (i := 638) (by decide +kernel))) (by decide +kernel))
theorem lk0J_toS : LK0 MJ_toS 0 := ⟨(lw_all_mem (List.mem_append_right _ (List.mem_of_getElem? (i := 15) (by decide +kernel))) (by decide +kernel)), cw_toS, ⟨by decide +kernel, by decide +kernel, by decide +kernel⟩, by decide +kernel⟩
abbrev MJ_gB : Mk := (yJ0_getBytes_840e7, cJ0_getBytes_840e7, 4, none, [])
theorem cw_gB : Cond.code (mY MJ_gB) (mB MJ_gB) (mL MJ_gB) (mR MJ_gB) ∈ lw_all := (lw_all_mem (List.mem_append_right _ (List.mem_of_getElem? (i := 564) (by decide +kernel))) (by decide +kernel))
theorem lk0J_gB : LK0 MJ_gB 3 := ⟨(lw_all_mem (List.mem_append_right _ (List.mem_of_getElem? (i := 16) (by decide +kernel))) (by decide +kernel)), cw_gB, ⟨by decide +kernel, by decide +kernel, by decide +kernel⟩, by decide +kernel⟩
abbrev MJ_nS : Mk := (yJ0_init_81219, cJ0_init_81219, 2, none, [])
theorem cw_nS : Cond.code (mY MJ_nS) (mB MJ_nS) (mL MJ_nS) (mR MJ_nS) ∈ lw_all := (lw_all_mem (List.mem_append_right _ (List.mem_of_getElem? (i := 643) (by decide +kernel))) (by decide +kernel))
theorem lk0J_nS : LK0 MJ_nS 1 := ⟨(lw_all_mem (List.mem_append_right _ (List.mem_of_getElem? (i := 16) (by decide +kernel))) (by decide +kernel)), cw_nS, ⟨by decide +kernel, by decide +kernel, by decide +kernel⟩, by decide +kernel⟩
abbrev MJ_nA : Mk := (yJ0_init_db425, cJ0_init_db425, 5, none, [])
theorem cw_nA : Cond.code (mY MJ_nA) (mB MJ_nA) (mL MJ_nA) (mR MJ_nA) ∈ lw_all := (lw_all_mem (List.mem_append_right _ (List.mem_of_getElem? (i := 646) (by decide +kernel))) (by decide +kernel))
theorem lk0J_nA : LK0 MJ_nA 2 := ⟨(lw_all_mem (List.mem_append_right _ (List.mem_of_getElem? (i := 16) (by decide +kernel))) (by decide +kernel)), cw_nA, ⟨by decide +kernel, by decide +kernel, by decide +kernel⟩, by decide +kernel⟩
abbrev MJ_enc : Mk := (yJ1_canEncode_fc78d, cJ1_canEncode_fc78d, 1, (some .boolean), [])
theorem cw_enc : Cond.code (mY MJ_enc) (mB MJ_enc) (mL MJ_enc) (mR MJ_enc) ∈ lw_all := (lw_all_mem (List.mem_append_right _ (List.mem_of_getElem? (i := 620) (by decide +kernel))) (by decide +kernel))
theorem lk0J_enc : LK0 MJ_enc 1 := ⟨(lw_all_mem (List.mem_append_right _ (List.mem_of_getElem? (i := 22) (by decide +kernel))) (by decide +kernel)), cw_enc, ⟨by decide +kernel, by decide +kernel, by decide +kernel⟩, by decide +kernel⟩
abbrev MJ_cpO : Mk := (yJ7_copyOf_9075b, cJ7_copyOf_9075b, 3, (some (.array .byte)), [])
theorem cw_cpO : Cond.code (mY MJ_cpO) (mB MJ_cpO) (mL MJ_cpO) (mR MJ_cpO) ∈ lw_all := (lw_all_mem (List.mem_append_right _ (List.mem_of_getElem? (i := 488) (by decide +kernel))) (by decide +kernel))
theorem lk0J_cpO : LK0 MJ_cpO 2 := ⟨(lw_all_mem (List.mem_append_right _ (List.mem_of_getElem? (i := 19) (by decide +kernel))) (by decide +kernel)), cw_cpO, ⟨by decide +kernel, by decide +kernel, by decide +kernel⟩, by decide +kernel⟩
abbrev MJ_cpR : Mk := (yJ7_copyOfRange_39247, cJ7_copyOfRange_39247, 3, (some (.array .byte)), [])
theorem cw_cpR : Cond.code (mY MJ_cpR) (mB MJ_cpR) (mL MJ_cpR) (mR MJ_cpR) ∈ lw_all := (lw_all_mem (List.mem_append_right _ (List.mem_of_getElem? (i := 664) (by decide +kernel))) (by decide +kernel))
theorem lk0J_cpR : LK0 MJ_cpR 3 := ⟨(lw_all_mem (List.mem_append_right _ (List.mem_of_getElem? (i := 19) (by decide +kernel))) (by decide +kernel)), cw_cpR, ⟨by decide +kernel, by decide +kernel, by decide +kernel⟩, by decide +kernel⟩
abbrev MJ_cpB : Mk := (yJ7_copyOfRangeByte_39247, cJ7_copyOfRangeByte_39247, 5, (some (.array .byte)), [])
theorem cw_cpB : Cond.code (mY MJ_cpB) (mB MJ_cpB) (mL MJ_cpB) (mR MJ_cpB) ∈ lw_all := (lw_all_mem (List.mem_append_right _ (List.mem_of_getElem? (i := 667) (by decide +kernel))) (by decide +kernel))
theorem lk0J_cpB : LK0 MJ_cpB 3 := ⟨(lw_all_mem (List.mem_append_right _ (List.mem_of_getElem? (i := 19) (by decide +kernel))) (by decide +kernel)), cw_cpB, ⟨by decide +kernel, by decide +kernel, by decide +kernel⟩, by decide +kernel⟩
abbrev MJ_chk : Mk := (yJ7_checkLength_df160, cJ7_checkLength_df160, 2, none, [])
theorem cw_chk : Cond.code (mY MJ_chk) (mB MJ_chk) (mL MJ_chk) (mR MJ_chk) ∈ lw_all := (lw_all_mem (List.mem_append_right _ (List.mem_of_getElem? (i := 670) (by decide +kernel))) (by decide +kernel))
theorem lk0J_chk : LK0 MJ_chk 2 := ⟨(lw_all_mem (List.mem_append_right _ (List.mem_of_getElem? (i := 19) (by decide +kernel))) (by decide +kernel)), cw_chk, ⟨by decide +kernel, by decide +kernel, by decide +kernel⟩, by decide +kernel⟩
abbrev MJ_nwl : Mk := (yJ8_newLength_cabcc, cJ8_newLength_cabcc, 4, (some .int), [])
theorem cw_nwl : Cond.code (mY MJ_nwl) (mB MJ_nwl) (mL MJ_nwl) (mR MJ_nwl) ∈ lw_all := (lw_all_mem (List.mem_append_right _ (List.mem_of_getElem? (i := 480) (by decide +kernel))) (by decide +kernel))
theorem lk0J_nwl : LK0 MJ_nwl 3 := ⟨(lw_all_mem (List.mem_append_right _ (List.mem_of_getElem? (i := 18) (by decide +kernel))) (by decide +kernel)), cw_nwl, ⟨by decide +kernel, by decide +kernel, by decide +kernel⟩, by decide +kernel⟩
abbrev MJ_siz : Mk := (yJ6_stringSize_0f7a4, cJ6_stringSize_0f7a4, 4, (some .int), [])
theorem cw_siz : Cond.code (mY MJ_siz) (mB MJ_siz) (mL MJ_siz) (mR MJ_siz) ∈ lw_all := (lw_all_mem (List.mem_append_right _ (List.mem_of_getElem? (i := 590) (by decide +kernel))) (by decide +kernel))
theorem lk0J_siz : LK0 MJ_siz 1 := ⟨(lw_all_mem (List.mem_append_right _ (List.mem_of_getElem? (i := 23) (by decide +kernel))) (by decide +kernel)), cw_siz, ⟨by decide +kernel, by decide +kernel, by decide +kernel⟩, by decide +kernel⟩
abbrev MJ_gch : Mk := (yJ6_getChars_ba4f3, cJ6_getChars_ba4f3, 7, (some .int), [])
theorem cw_gch : Cond.code (mY MJ_gch) (mB MJ_gch) (mL MJ_gch) (mR MJ_gch) ∈ lw_all := (lw_all_mem (List.mem_append_right _ (List.mem_of_getElem? (i := 593) (by decide +kernel))) (by decide +kernel))
theorem lk0J_gch : LK0 MJ_gch 3 := ⟨(lw_all_mem (List.mem_append_right _ (List.mem_of_getElem? (i := 23) (by decide +kernel))) (by decide +kernel)), cw_gch, ⟨by decide +kernel, by decide +kernel, by decide +kernel⟩, by decide +kernel⟩
theorem gcJ5_18 {M : Mk} (h : (mY M).cls = RJ5) : Cond.fieldLink (mY M).cls 18 "java/lang/String" "COMPACT_STRINGS" "Z" ∈ lw_all := by rw [h]; exact (lw_all_mem (List.mem_append_right _ (List.mem_of_getElem? (i := 507) (by decide +kernel))) (by decide +kernel))
theorem fjJ5_22_13 {M : Mk} (h : (mY M).cls = RJ5) : FL M 22 13 1 := ⟨by rw [h]; exact (lw_all_mem (List.mem_append_right _ (List.mem_of_getElem? (i := 568) (by decide +kernel))) (by decide +kernel)), by decide⟩
theorem pofjJ5_22_13 {M : Mk} (h : (mY M).cls = RJ5) : putOK M 22 13 1 := Or.inl ⟨fjJ5_22_13 h, Or.inl rfl⟩
theorem fjJ5_15_13 {M : Mk} (h : (mY M).cls = RJ5) : FL M 15 13 0 := ⟨by rw [h]; exact (lw_all_mem (List.mem_append_right _ (List.mem_of_getElem? (i := 567) (by decide +kernel))) (by decide +kernel)), by decide⟩
theorem pofjJ5_15_13 {M : Mk} (h : (mY M).cls = RJ5) : putOK M 15 13 0 := Or.inl ⟨fjJ5_15_13 h, Or.inl rfl⟩
theorem fjJ5_79_13 {M : Mk} (h : (mY M).cls = RJ5) : FL M 79 13 3 := ⟨by rw [h]; exact (lw_all_mem (List.mem_append_right _ (List.mem_of_getElem? (i := 570) (by decide +kernel))) (by decide +kernel)), by decide⟩
theorem pofjJ5_79_13 {M : Mk} (h : (mY M).cls = RJ5) : putOK M 79 13 3 := Or.inl ⟨fjJ5_79_13 h, Or.inl rfl⟩
theorem ljJ4_343 {M : Mk} (h : (mY M).cls = RJ4) : LKQ M MJ_aLen 343 0 := ⟨lk0J_aLen, by decide +kernel, by rw [h]; exact (lw_all_mem (List.mem_append_right _ (List.mem_of_getElem? (i := 659) (by decide +kernel))) (by decide +kernel)), (lw_all_mem (List.mem_append_right _ (List.mem_of_getElem? (i := 655) (by decide +kernel))) (by decide +kernel)), by rw [h]; exact (lw_all_mem (List.mem_append_right _ (List.mem_of_getElem? (i := 464) (by decide +kernel))) (by decide +kernel)), (lw_all_mem (List.mem_append_right _ (List.mem_of_getElem? (i := 654) (by decide +kernel))) (by decide +kernel))⟩
theorem ljJ5_40 {M : Mk} (h : (mY M).cls = RJ5) : LKV M MJ_coder 40 0 := ⟨lk0J_coder, by rw [h]; exact (lw_all_mem (List.mem_append_right _ (List.mem_of_getElem? (i := 445) (by decide +kernel))) (by decide +kernel)), (lw_all_mem (List.mem_append_right _ (List.mem_of_getElem? (i := 438) (by decide +kernel))) (by decide +kernel)), (lw_all_mem (List.mem_append_right _ (List.mem_of_getElem? (i := 439) (by decide +kernel))) (by decide +kernel))⟩
theorem ljJ0_335 {M : Mk} (h : (mY M).cls = RJ0) : LKV M MJ_coder 335 0 := ⟨lk0J_coder, by rw [h]; exact (lw_all_mem (List.mem_append_right _ (List.mem_of_getElem? (i := 437) (by decide +kernel))) (by decide +kernel)), (lw_all_mem (List.mem_append_right _ (List.mem_of_getElem? (i := 438) (by decide +kernel))) (by decide +kernel)), (lw_all_mem (List.mem_append_right _ (List.mem_of_getElem? (i := 439) (by decide +kernel))) (by decide +kernel))⟩
theorem ljJ0_212 {M : Mk} (h : (mY M).cls = RJ0) : Cond.methodLink (mY M).cls 212 arraycopyName ∈ lw_all ∧ Cond.native arraycopyName ∈ lw_all ∧ Cond.static arraycopyName ∈ lw_all ∧ Cond.initialized "java/lang/System" ∈ lw_all := ⟨by rw [h]; exact (lw_all_mem (List.mem_append_right _ (List.mem_of_getElem? (i := 565) (by decide +kernel))) (by decide +kernel)), (lw_all_mem (List.mem_append_right _ (List.mem_of_getElem? (i := 501) (by decide +kernel))) (by decide +kernel)), (lw_all_mem (List.mem_append_right _ (List.mem_of_getElem? (i := 500) (by decide +kernel))) (by decide +kernel)), (lw_all_mem (List.mem_append_right _ (List.mem_of_getElem? (i := 20) (by decide +kernel))) (by decide +kernel))⟩
theorem ljJ5_397 {M : Mk} (h : (mY M).cls = RJ5) : LKU M MJ_inf 397 1 yJ5_inflateIfNeededFor_a7421 := ⟨lk0J_inf, ⟨by decide +kernel, by decide +kernel, by decide +kernel⟩, by rw [h]; exact (lw_all_mem (List.mem_append_right _ (List.mem_of_getElem? (i := 538) (by decide +kernel))) (by decide +kernel)), (lw_all_mem (List.mem_append_right _ (List.mem_of_getElem? (i := 1428) (by decide +kernel))) (by decide +kernel)), ⟨(lw_all_mem (List.mem_append_right _ (List.mem_of_getElem? (i := 540) (by decide +kernel))) (by decide +kernel)), _, _, _, cw_inf⟩, lw_all_sel (List.mem_of_getElem? (i := 3) rfl) (by decide +kernel), (lw_all_mem (List.mem_append_right _ (List.mem_of_getElem? (i := 540) (by decide +kernel))) (by decide +kernel))⟩
theorem ljJ5_399 {M : Mk} (h : (mY M).cls = RJ5) : LKV M MJ_gB 399 3 := ⟨lk0J_gB, by rw [h]; exact (lw_all_mem (List.mem_append_right _ (List.mem_of_getElem? (i := 561) (by decide +kernel))) (by decide +kernel)), (lw_all_mem (List.mem_append_right _ (List.mem_of_getElem? (i := 562) (by decide +kernel))) (by decide +kernel)), (lw_all_mem (List.mem_append_right _ (List.mem_of_getElem? (i := 563) (by decide +kernel))) (by decide +kernel))⟩
set_option maxRecDepth 100000 in
theorem cJ_aL1 {C : Cx} {nx : Nat} {s : Sg} (hsb : shC C 81 = some (.inl 13)) (h81 : 81 < nx) (h1 : gi s 81 1 = 0) : mm C MJ_aL1 0 0 0 nx nx [.ref 81] (hp nx s) (QI nx s 1) XF := by
  refine mm_of rfl rfl (Nat.le_of_ble_eq_true rfl) ?_
  show ww C MJ_aL1 0 0 0 nx _ XF nx 0 0 0 [(0, .ref 81)] [] (hp nx s)
  refine x_getsC dJ5_isLatin1_aae02_0 (gcJ5_18 rfl) ?_
  refine w_ifeq dJ5_isLatin1_aae02_3 rfl (fun q => absurd q (by decide)) (fun _ => ?_)
  refine w_aload_n 0 dJ5_isLatin1_aae02_6 rfl rfl ?_
  refine xe_getI 13 1 (x := 0) dJ5_isLatin1_aae02_7 (fjJ5_22_13 rfl) rfl hsb h81 h1 ?_
  refine w_ifne dJ5_isLatin1_aae02_10 rfl (fun q => absurd ((zE (by unfold R; omega)).mpr (by omega)) q) (fun _ => ?_)
  refine x_iconst dJ5_isLatin1_aae02_13 ?_
  refine w_goto dJ5_isLatin1_aae02_14 rfl ?_
  exact w_ireturn (ty := .boolean) rfl rfl dJ5_isLatin1_aae02_18 rfl (Nat.le_of_ble_eq_true rfl) (Nat.le_of_ble_eq_true rfl) ⟨rfl, rfl⟩
set_option maxRecDepth 100000 in
theorem cJ_aVal {C : Cx} {nx : Nat} {s : Sg} {b : Nat} (hsb : shC C 81 = some (.inl 13)) (h81 : 81 < nx) (hb0 : b ≠ 0) (h0 : gd s 81 0 = b) : mm C MJ_aVal 0 0 0 nx nx [.ref 81] (hp nx s) (QA nx s b) XF := by
  have hk81 : KN ≤ 81 := by decide
  refine mm_of rfl rfl (Nat.le_of_ble_eq_true rfl) ?_
  show ww C MJ_aVal 0 0 0 nx _ XF nx 0 0 0 [(0, .ref 81)] [] (hp nx s)
  refine w_aload_n 0 dJ5_getValue_6d5f1_0 rfl rfl ?_
  refine xe_getR 13 0 (b := b) dJ5_getValue_6d5f1_1 (fjJ5_15_13 rfl) rfl hsb h81 hk81 hb0 h0 ?_
  exact w_areturn (ty := .array .byte) rfl rfl dJ5_getValue_6d5f1_4 rfl (Nat.le_of_ble_eq_true rfl) (Nat.le_of_ble_eq_true rfl) ⟨rfl, rfl⟩
set_option maxRecDepth 100000 in
theorem cJ_aLen {C : Cx} {nx : Nat} {s : Sg} {x : Int} (hsb : shC C 81 = some (.inl 13)) (h81 : 81 < nx) (h3 : gi s 81 3 = x) : mm C MJ_aLen 0 0 0 nx nx [.ref 81] (hp nx s) (QI nx s x) XF := by
  refine mm_of rfl rfl (Nat.le_of_ble_eq_true rfl) ?_
  show ww C MJ_aLen 0 0 0 nx _ XF nx 0 0 0 [(0, .ref 81)] [] (hp nx s)
  refine w_aload_n 0 dJ5_length_8abf5_0 rfl rfl ?_
  refine xe_getI 13 3 (x := x) dJ5_length_8abf5_1 (fjJ5_79_13 rfl) rfl hsb h81 h3 ?_
  exact w_ireturn (ty := .int) rfl rfl dJ5_length_8abf5_4 rfl (Nat.le_of_ble_eq_true rfl) (Nat.le_of_ble_eq_true rfl) ⟨rfl, rfl⟩
set_option maxRecDepth 100000 in
theorem cJ_sLen {C : Cx} {nx : Nat} {s : Sg} {x : Int} (hsb : shC C 81 = some (.inl 13)) (h81 : 81 < nx) (h3 : gi s 81 3 = x) : mm C MJ_sLen 1 0 0 nx nx [.ref 81] (hp nx s) (QI nx s x) XF := by
  refine mm_of rfl rfl (Nat.le_of_ble_eq_true rfl) ?_
  show ww C MJ_sLen 1 0 0 nx _ XF nx 0 0 0 [(0, .ref 81)] [] (hp nx s)
  refine w_aload_n 0 dJ4_length_8abf5_0 rfl rfl ?_
  refine w_callQ MJ_aLen [] (st := []) dJ4_length_8abf5_1 (ljJ4_343 rfl) h81 hsb (Nat.le_of_ble_eq_true rfl) (by omega) (by omega) (Nat.le_of_ble_eq_true rfl) (cJ_aLen hsb h81 h3) (fun v h' hq => ?_)
  obtain ⟨rfl, rfl⟩ := hq
  exact w_ireturn (ty := .int) rfl rfl dJ4_length_8abf5_4 rfl (Nat.le_of_ble_eq_true rfl) (Nat.le_of_ble_eq_true rfl) ⟨rfl, rfl⟩
set_option maxRecDepth 100000 in
theorem cJ_inf {C : Cx} {nx : Nat} {s : Sg} {w : Nat} (hw : isStr w) (hsb : shC C 81 = some (.inl 13)) (h81 : 81 < nx) (h1 : gi s 81 1 = 0) : mm C MJ_inf 1 0 0 nx nx [.ref 81, .ref (2000 + w)] (hp nx s) (QV nx s) XF := by
  refine mm_of rfl rfl (Nat.le_of_ble_eq_true rfl) ?_
  show ww C MJ_inf 1 0 0 nx _ XF nx 0 0 0 [(0, .ref 81), (1, .ref (2000 + w))] [] (hp nx s)
  refine x_getsC dJ5_inflateIfNeededFor_a7421_0 (gcJ5_18 rfl) ?_
  refine w_ifeq dJ5_inflateIfNeededFor_a7421_3 rfl (fun q => absurd q (by decide)) (fun _ => ?_)
  refine w_aload_n 0 dJ5_inflateIfNeededFor_a7421_6 rfl rfl ?_
  refine xe_getI 13 1 (x := 0) dJ5_inflateIfNeededFor_a7421_7 (fjJ5_22_13 rfl) rfl hsb h81 h1 ?_
  refine w_aload_n 1 dJ5_inflateIfNeededFor_a7421_10 rfl rfl ?_
  refine w_callVs MJ_coder [] (w := w) (st := [vi 0]) dJ5_inflateIfNeededFor_a7421_11 (ljJ5_40 rfl) hw rfl (Nat.le_of_ble_eq_true rfl) (by omega) (by omega) (Nat.le_of_ble_eq_true rfl) (cJ_coder hw) XOK.no (fun v h' hq => ?_)
  obtain ⟨rfl, rfl⟩ := hq
  refine w_icmpeq dJ5_inflateIfNeededFor_a7421_14 rfl (fun _ => ?_) (fun q => absurd ((c32e (by unfold R; omega) (by unfold R; omega)).mpr (by omega)) q)
  exact w_return rfl dJ5_inflateIfNeededFor_a7421_21 rfl (Nat.le_of_ble_eq_true rfl) (Nat.le_of_ble_eq_true rfl) ⟨rfl, rfl⟩
/-- u's m values from place p on -/
def wr (s : Sg) (b p m : Nat) (u : Nat → Int) : Sg := (fun c j => if c = b ∧ p ≤ j ∧ j < p + m then u (j - p) else s.1 c j, s.2)
theorem gi_wr (s : Sg) (b p m : Nat) (u : Nat → Int) (c j : Nat) : gi (wr s b p m u) c j = if c = b ∧ p ≤ j ∧ j < p + m then u (j - p) else gi s c j := rfl
theorem gd_wr (s : Sg) (b p m : Nat) (u : Nat → Int) : gd (wr s b p m u) = gd s := rfl
theorem wch_fit : ∀ w, w < 27 → ∀ j, j < 11 → fits .byte (.int (Int32.ofInt (wch w j))) = true := by decide +kernel
theorem nat32 {x : Nat} (h : x ≤ 100000) : (Int32.ofInt (x : Int)).toNatClampNeg = x ∧ ¬ Int32.ofInt (x : Int) < 0 := by
  refine ⟨?_, fun q => ?_⟩
  · show (Int32.ofInt (x : Int)).toInt.toNat = x
    rw [t32 (by unfold R; omega)]
    exact Int.toNat_natCast x
  · have := (zLt (by unfold R; omega)).mp q
    omega
set_option maxRecDepth 100000 in
theorem cJ_gB {C : Cx} {nx : Nat} {s : Sg} {w b p cc : Nat} (hw : isStr w) (hsb : shC C b = some (.inr (.byte, cc))) (hb : b < nx) (hpc : p + wlen w ≤ cc) (hc : cc ≤ 4096) : mm C MJ_gB 1 0 0 nx nx [.ref (2000 + w), .ref b, vi (p : Int), vi 0] (hp nx s) (QV nx (wr s b p (wlen w) (wch w))) XF := by
  have h27 : w < 27 := by unfold isStr at hw; omega
  have e1 := nat32 (x := p) (by omega)
  have e2 := nat32 (x := wlen w) (by omega)
  refine mm_of rfl rfl (Nat.le_of_ble_eq_true rfl) ?_
  show ww C MJ_gB 1 0 0 nx _ XF nx 0 0 0 [(0, .ref (2000 + w)), (1, .ref b), (2, vi (p : Int)), (3, vi 0)] [] (hp nx s)
  refine w_aload_n 0 dJ0_getBytes_840e7_0 rfl rfl ?_
  refine w_callVs MJ_coder [] (w := w) (st := []) dJ0_getBytes_840e7_1 (ljJ0_335 rfl) hw rfl (Nat.le_of_ble_eq_true rfl) (by omega) (by omega) (Nat.le_of_ble_eq_true rfl) (cJ_coder hw) XOK.no (fun v h' hq => ?_)
  obtain ⟨rfl, rfl⟩ := hq
  refine w_iload_n 3 dJ0_getBytes_840e7_4 rfl rfl ?_
  refine w_icmpne dJ0_getBytes_840e7_5 rfl (fun q => absurd ((c32e (by unfold R; omega) (by unfold R; omega)).mpr (by omega)) q) (fun _ => ?_)
  refine w_aload_n 0 dJ0_getBytes_840e7_8 rfl rfl ?_
  refine x_strval hw dJ0_getBytes_840e7_9 fJ_val ?_
  refine x_iconst dJ0_getBytes_840e7_12 ?_
  refine w_aload_n 1 dJ0_getBytes_840e7_13 rfl rfl ?_
  refine w_iload_n 2 dJ0_getBytes_840e7_14 rfl rfl ?_
  refine w_iload_n 3 dJ0_getBytes_840e7_15 rfl rfl ?_
  refine x_ishl dJ0_getBytes_840e7_16 ?_
  rw [ishl0 (by unfold R; omega)]
  refine w_aload_n 0 dJ0_getBytes_840e7_17 rfl rfl ?_
  refine x_strval hw dJ0_getBytes_840e7_18 fJ_val ?_
  refine x_bylen hw dJ0_getBytes_840e7_21 ?_
  refine w_copyG (t1 := 2) (ty := .byte) (n0 := wlen w) (n1 := cc) (f := fun j => Int32.ofInt (wch w j)) (h' := hp nx (wr s b p (wlen w) (wch w))) (fun U H locs hSt hS _ => ?_) rfl (Or.inr rfl) hsb hb (by decide) e1.2 e2.2 (by rw [e2.1]; show 0 + wlen w ≤ wlen w; omega) (by rw [e1.1, e2.1]; exact hpc) (fun i hi => ?_) dJ0_getBytes_840e7_22 (ljJ0_212 rfl) (Nat.le_of_ble_eq_true rfl) (Nat.le_of_ble_eq_true rfl) (fun q => ?_) (fun j hj k => ?_) rfl rfl rfl ?_
  · show srcR .byte (wlen w) _ (ad C (2100 + w)) U H
    rw [ad_ge (by omega)]
    exact srcR_old ((hSt.2.2.2.2.2.2.1 w hw).2.2.2.kept hS.2.1)
  · rw [e2.1] at hi
    show fits .byte (.int (Int32.ofInt (wch w ((Int32.ofInt 0).toNatClampNeg + i)))) = true
    rw [show (Int32.ofInt 0).toNatClampNeg = 0 by decide, Nat.zero_add]
    exact wch_fit w h27 i (by have := wlen5 w h27; omega)
  · rw [e1.1, e2.1, show (Int32.ofInt 0).toNatClampNeg = 0 by decide]
    show Int32.ofInt (if b = b ∧ p ≤ q ∧ q < p + wlen w then wch w (q - p) else s.1 b q) = (if p ≤ q ∧ q < p + wlen w then Int32.ofInt (wch w (0 + (q - p))) else Int32.ofInt (s.1 b q))
    by_cases hq : p ≤ q ∧ q < p + wlen w
    · rw [if_pos ⟨rfl, hq⟩, if_pos hq, Nat.zero_add]
    · rw [if_neg (fun z => hq z.2), if_neg hq]
  · show Int32.ofInt (if j = b ∧ p ≤ k ∧ k < p + wlen w then wch w (k - p) else s.1 j k) = Int32.ofInt (s.1 j k)
    rw [if_neg (fun z => hj z.1)]
  refine w_goto dJ0_getBytes_840e7_25 rfl ?_
  exact w_return rfl dJ0_getBytes_840e7_43 rfl (Nat.le_of_ble_eq_true rfl) (Nat.le_of_ble_eq_true rfl) ⟨rfl, rfl⟩
set_option maxRecDepth 100000 in
theorem cJ_put {C : Cx} {nx : Nat} {s : Sg} {w b p cc : Nat} (hw : isStr w) (hsb : shC C 81 = some (.inl 13)) (h81 : 81 < nx) (h1 : gi s 81 1 = 0) (h0 : gd s 81 0 = b) (hb0 : b ≠ 0) (hbs : shC C b = some (.inr (.byte, cc))) (hb : b < nx) (hpc : p + wlen w ≤ cc) (hc : cc ≤ 4096) : mm C MJ_put 2 0 0 nx nx [.ref 81, vi (p : Int), .ref (2000 + w)] (hp nx s) (QV nx (wr s b p (wlen w) (wch w))) XF := by
  have hk81 : KN ≤ 81 := by decide
  refine mm_of rfl rfl (Nat.le_of_ble_eq_true rfl) ?_
  show ww C MJ_put 2 0 0 nx _ XF nx 0 0 0 [(0, .ref 81), (1, vi (p : Int)), (2, .ref (2000 + w))] [] (hp nx s)
  refine w_aload_n 0 dJ5_putStringAt_47b60_0 rfl rfl ?_
  refine w_aload_n 2 dJ5_putStringAt_47b60_1 rfl rfl ?_
  refine w_callU MJ_inf yJ5_inflateIfNeededFor_a7421 [.ref (2000 + w)] (st := []) dJ5_putStringAt_47b60_2 (ljJ5_397 rfl) h81 hsb (Nat.le_of_ble_eq_true rfl) (by omega) (by omega) (Nat.le_of_ble_eq_true rfl) (cJ_inf hw hsb h81 h1) (fun v h' hq => ?_)
  obtain ⟨rfl, rfl⟩ := hq
  refine w_aload_n 2 dJ5_putStringAt_47b60_5 rfl rfl ?_
  refine w_aload_n 0 dJ5_putStringAt_47b60_6 rfl rfl ?_
  refine xe_getR 13 0 (b := b) dJ5_putStringAt_47b60_7 (fjJ5_15_13 rfl) rfl hsb h81 hk81 hb0 h0 ?_
  refine w_iload_n 1 dJ5_putStringAt_47b60_10 rfl rfl ?_
  refine w_aload_n 0 dJ5_putStringAt_47b60_11 rfl rfl ?_
  refine xe_getI 13 1 (x := 0) dJ5_putStringAt_47b60_12 (fjJ5_22_13 rfl) rfl hsb h81 h1 ?_
  refine w_callVs MJ_gB [.ref b, vi (p : Int), vi 0] (w := w) (st := []) dJ5_putStringAt_47b60_15 (ljJ5_399 rfl) hw rfl (Nat.le_of_ble_eq_true rfl) (by omega) (by omega) (Nat.le_of_ble_eq_true rfl) (cJ_gB hw hbs hb hpc hc) XOK.no (fun v h' hq => ?_)
  obtain ⟨rfl, rfl⟩ := hq
  exact w_return rfl dJ5_putStringAt_47b60_18 rfl (Nat.le_of_ble_eq_true rfl) (Nat.le_of_ble_eq_true rfl) ⟨rfl, rfl⟩

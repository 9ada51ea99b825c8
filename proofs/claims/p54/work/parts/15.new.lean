/-! ===== objects come ===== -/
def rfo (Rb : Nat → Nat → Option Nat) : List (Nat × Nat × Nat) → Nat → Nat → Option Nat
  | [], x, y => Rb x y
  | (a, k, b) :: L, x, y => if x = a ∧ y = k then some b else rfo Rb L x y
def hcb (Rb : Nat → Nat → Option Nat) (L : List (Nat × Nat × Nat)) (s : Sg) : Hp := (fun a f => Int32.ofInt (s.1 a f), rfo Rb L, fun a f => Int64.ofInt (s.2.1 a f), fun _ _ => 0)
theorem hcb_sR (Rb : Nat → Nat → Option Nat) (L : List (Nat × Nat × Nat)) (s : Sg) (a k b : Nat) : sR (hcb Rb L s) a k (some b) = hcb Rb ((a, k, b) :: L) s := rfl
theorem hcb_sI (Rb : Nat → Nat → Option Nat) (L : List (Nat × Nat × Nat)) (s : Sg) (a k : Nat) (v : Int) : sI (hcb Rb L s) a k (Int32.ofInt v) = hcb Rb L (si s a k v) := by
  unfold sI hcb si
  refine Prod.ext ?_ rfl
  funext b j
  show (if b = a ∧ j = k then Int32.ofInt v else Int32.ofInt (s.1 b j)) = Int32.ofInt (if b = a ∧ j = k then v else s.1 b j)
  split <;> rfl
theorem HPh_new {C : Cx} {nx : Nat} {h : Hp} {H H1 : Heap} (hP : HPh C nx h H) (hK : nx < KC C) (hz : H1.size = H.size + 1) (ho : ∀ q, q < H.size → H1[q]? = H[q]?) (hat : va_at (xD C) vwCl (xB C + nx, ce C h nx) H1) : HPh C (nx + 1) h H1 := by
  obtain ⟨p1, p2, p3, p4, p5, p6⟩ := hP
  have e4 := p4
  refine ⟨fun k q hk => ?_, p2, by omega, by omega, ⟨hK, p5.2⟩, fun i h1 h2 j => p6 i (by omega) h2 j⟩
  have hl : k < nx + 1 := by have := (List.getElem?_eq_some_iff.mp hk).1; rwa [wl_len] at this
  rw [wl_at C (nx + 1) h hl] at hk
  cases hk
  by_cases hkn : k = nx
  · subst hkn; exact hat
  · have h0 := p1 k _ (wl_at C nx h (by omega : k < nx))
    exact h0.kept (ho _ (by have := h0.lt; exact this))
theorem fv_zero {C : Cx} {h : Hp} {i k : Nat} {ty : FieldType} (h0 : gI h i k = 0 ∧ gR h i k = none ∧ gL h i k = 0 ∧ gD h i k = 0) (hty : ty = .int ∨ ty = .boolean ∨ ty = .byte ∨ isR ty = true) : fv C h i k ty = defaultValue ty := by
  obtain ⟨h1, h2, h3, h4⟩ := h0
  rcases hty with rfl | rfl | rfl | hr
  · show Value.int (gI h i k) = _; rw [h1]; rfl
  · show Value.int (gI h i k) = _; rw [h1]; rfl
  · show Value.int (gI h i k) = _; rw [h1]; rfl
  · rw [fv_R hr, h2]
    revert hr
    cases ty <;> intro hr <;> first | rfl | cases hr
theorem cty_ok : ∀ ci, ci < 14 → ∀ k, k < cn ci → (decide (cty ci k = .int) || decide (cty ci k = .boolean) || decide (cty ci k = .byte) || isR (cty ci k)) = true := by decide +kernel
section CTOR
variable {C : Cx} {M : Mk} {d mc ms ne : Nat} {Qr : Option Value → Hp → Prop} {Qx : String → Hp → Prop} {nx k n pc : Nat} {lv lv' : List (Nat × Value)} {st stk : List Value} {h : Hp} {s : Sg} {Rb : Nat → Nat → Option Nat} {L : List (Nat × Nat × Nat)}
theorem c_new {nx' k' n' : Nat} (ci : Nat) {idx : Nat} (hd : decode (mB M) pc = .ok (.new idx, 3)) (hs : shC C nx = some (.inl ci)) (hlk : Cond.classLink (mY M).cls idx (cR ci) ∈ lw_all ∧ Cond.instantiable (cR ci) (cn ci) ∈ lw_all ∧ Cond.initialized (cR ci) ∈ lw_all) (hk : k + 1 ≤ mc) (hn : n + cn ci ≤ ms) (e1 : nx + 1 = nx') (e2 : k + 1 = k') (e3 : n + cn ci = n') (kk : ww C M d mc ms ne Qr Qx nx' k' n' (pc + 3) lv (.ref nx :: st) h) : ww C M d mc ms ne Qr Qx nx k n pc lv st h := by
  subst e1 e2 e3
  intro p l e s m args below meth c Fin cz hr hx hzz H locs ls hP hS hL
  have hKn := cz.2.2.2.1.1.1 ci _ (cl_at (shC_cls hP hs))
  have hK := shC_lt hs
  have hsz := hP.2.2.2.1
  have h9k := Nat.lt_of_lt_of_le hK hP.2.2.2.2.1.2.1
  refine W.newcK cz.1.1 cz.1.2.1 cz.1.2.2.2.2 (cz.2.1 _ hlk.1) (cz.2.1 _ hlk.2.1) (cz.2.1 _ hlk.2.2) rfl hd hk hn hKn.2.1 rfl fun H1 kC hkC e1 z1 o1 => ?_
  have hP1 : HPh C (nx + 1) h H1 := by
    refine HPh_new hP hK z1 o1 ?_
    rw [ce_objC C h hs, ← hsz]
    refine ⟨_, cl_at (shC_cls hP hs), (u_born (cty ci) cz.2.1 (in_ws ci (shC_cls hP hs)) hKn hkC e1 (cl_ty ci (shC_cls hP hs))).to (fun j hj => ?_)⟩
    have h0 := hP.2.2.2.2.2 nx (Nat.le_refl _) hK j
    have h1 := cty_ok ci (shC_cls hP hs) j hj
    simp only [Bool.or_eq_true, decide_eq_true_eq] at h1
    have e9 : ((List.range (cn ci)).map (fun k => fv C h nx k (cty ci k)))[j]? = some (fv C h nx j (cty ci j)) := fs_at hj
    show _ = ((List.range (cn ci)).map (fun k => fv C h nx k (cty ci k))).getD j Value.null
    rw [List.getD_eq_getElem?_getD, e9]
    refine (fv_zero h0 ?_).symm
    rcases h1 with ((h1 | h1) | h1) | h1
    · exact Or.inl h1
    · exact Or.inr (Or.inl h1)
    · exact Or.inr (Or.inr (Or.inl h1))
    · exact Or.inr (Or.inr (Or.inr h1))
  have hS1 : va_S (xAl C) s.heap H1 locs := ⟨Nat.le_trans hS.1 (by omega), fun x h1 h2 => (o1 x (Nat.lt_of_lt_of_le h1 hS.1)).trans (hS.2.1 x h1 h2), hS.2.2⟩
  have h9 := kk p l e s m args below meth c Fin cz hr hx hzz H1 locs ls hP1 hS1 hL
  rw [List.map_cons, up_ref, ad_l9 h9k, ← hsz] at h9
  exact h9
theorem c_newarr {nx' k' n' : Nat} (ty : FieldType) (N : Nat) {at_ : ArrayType} {x : Int} (hx : x = (N : Int)) (hN : N ≤ 4096) (hd : decode (mB M) pc = .ok (.newarray at_, 2)) (hty : newarray.typeOf at_ = ty) (hs : shC C nx = some (.inr (ty, N))) (hpr : ty = .int ∨ ty = .boolean ∨ ty = .byte) (hlk : Cond.arrayClass ty ∈ lw_all) (hk : k + 1 ≤ mc) (hn : n + N ≤ ms) (e1 : nx + 1 = nx') (e2 : k + 1 = k') (e3 : n + N = n') (kk : ww C M d mc ms ne Qr Qx nx' k' n' (pc + 2) lv (.ref nx :: st) h) : ww C M d mc ms ne Qr Qx nx k n pc lv (vi x :: st) h := by
  subst e1 e2 e3
  subst hx
  subst hty
  intro p l e s9 m args below meth c Fin cz hr hx hzz H locs ls hP hS hL
  have hK := shC_lt hs
  have hsz := hP.2.2.2.1
  have h9k := Nat.lt_of_lt_of_le hK hP.2.2.2.2.1.2.1
  have hR : R (N : Int) := by unfold R; omega
  have eN : (Int32.ofInt (N : Int)).toNatClampNeg = N := by
    show (Int32.ofInt (N : Int)).toInt.toNat = N
    rw [t32 hR]
    exact Int.toNat_natCast N
  have hNn : ¬ Int32.ofInt (N : Int) < 0 := by
    rw [z32, c32l hR R0]; omega
  have hcb : componentBytes (newarray.typeOf at_) ≤ 8 := by cases at_ <;> decide
  refine va_newaK (rest := st.map (up C)) cz.1.1 cz.1.2.1 (cz.2.1 _ hlk) rfl hd rfl hNn eN (Nat.le_trans (Nat.mul_le_mul hN hcb) (by decide)) hk hn hsz fun H1 cA e1 z1 o1 hAr hNm => ?_
  have hcA : cA = xA C (newarray.typeOf at_) := by
    have hmem : ∃ t0 : Nat, (tyl C)[t0]? = some (xA C (newarray.typeOf at_), newarray.typeOf at_) := by
      rcases hpr with h | h | h
      · exact ⟨0, by rw [h]; rfl⟩
      · exact ⟨1, by rw [h]; rfl⟩
      · exact ⟨2, by rw [h]; rfl⟩
    obtain ⟨t0, ht0⟩ := hmem
    have h1 := (cz.2.2.2.1.1.2 t0 _ ht0).2
    have h2 : s9.vm.findClass ("[" ++ (newarray.typeOf at_).toString) = some (xA C (newarray.typeOf at_)) := by
      revert h1
      rcases hpr with h | h | h <;> rw [h] <;> exact fun h1 => h1
    exact Option.some.inj (hNm.symm.trans h2)
  subst hcA
  have hP1 : HPh C (nx + 1) h H1 := by
    refine HPh_new hP hK (by rw [z1, hsz]) (fun q hq => o1 q (by rw [← hsz]; exact hq)) ?_
    rw [ce_arrC C h hs]
    show H1[xB C + nx]? = some (vp_cell (xA C (newarray.typeOf at_)) (N, ac C h nx (newarray.typeOf at_)))
    rw [e1]
    congr 1
    have h0 := hP.2.2.2.2.2 nx (Nat.le_refl _) hK
    have g1 : gI h nx = fun _ => 0 := funext fun j => (h0 j).1
    have g3 : gL h nx = fun _ => 0 := funext fun j => (h0 j).2.2.1
    have g4 : gD h nx = fun _ => 0 := funext fun j => (h0 j).2.2.2
    rcases hpr with h | h | h <;> rw [h] <;> unfold ac <;> simp only [g1, g3, g4] <;> rfl
  have hS1 : va_S (xAl C) s9.heap H1 locs := ⟨Nat.le_trans hS.1 (by omega), fun x h1 h2 => (o1 x (by have := hS.1; omega)).trans (hS.2.1 x h1 h2), hS.2.2⟩
  have h9 := kk p l e s9 m args below meth c Fin cz hr hx hzz H1 locs ls hP1 hS1 hL
  rw [List.map_cons, up_ref, ad_l9 h9k] at h9
  exact h9
theorem c_newq {nx' k' n' : Nat} (N : Nat) {idx : Nat} {x : Int} (hx : x = (N : Int)) (hN : N ≤ 4096) (hd : decode (mB M) pc = .ok (.anewarray idx, 3)) (hs : shC C nx = some (.inr (ty_pos, N))) (hlk : Cond.classLink (mY M).cls idx "HexArbiter$Position" ∈ lw_all) (hk : k + 1 ≤ mc) (hn : n + N ≤ ms) (e1 : nx + 1 = nx') (e2 : k + 1 = k') (e3 : n + N = n') (kk : ww C M d mc ms ne Qr Qx nx' k' n' (pc + 3) lv (.ref nx :: st) h) : ww C M d mc ms ne Qr Qx nx k n pc lv (vi x :: st) h := by
  subst e1 e2 e3
  subst hx
  intro p l e s9 m args below meth c Fin cz hr hx hzz H locs ls hP hS hL
  have hK := shC_lt hs
  have hsz := hP.2.2.2.1
  have h9k := Nat.lt_of_lt_of_le hK hP.2.2.2.2.1.2.1
  have hR : R (N : Int) := by unfold R; omega
  have eN : (Int32.ofInt (N : Int)).toNatClampNeg = N := by
    show (Int32.ofInt (N : Int)).toInt.toNat = N
    rw [t32 hR]
    exact Int.toNat_natCast N
  have hNn : ¬ Int32.ofInt (N : Int) < 0 := by
    rw [z32, c32l hR R0]; omega
  refine W.anew (rest := st.map (up C)) cz.1.1 cz.1.2.1 cz.1.2.2.2.2 (cz.2.1 _ hlk) (va_AO.use cz.2.2.2.1.2.2.2.2.2.1.1) rfl hd rfl hNn (by rw [eN]; omega) hk (by rw [eN]; exact hn) fun cA kA comp f1 f2 f3 f4 => ?_
  rw [eN]
  have hcA : cA = xA C ty_pos := by
    obtain ⟨kA', comp', -, -, -, h4⟩ := (cz.2.2.2.1.1.2 3 _ rfl).2
    exact Option.some.inj (f1.symm.trans h4)
  subst hcA
  generalize hH1 : H.push ({ cls := xA C ty_pos, slots := Array.replicate N .null, vm := .none } : Cell) = H1
  have z1 : H1.size = H.size + 1 := by rw [← hH1, Array.size_push]
  have e1 : H1[H.size]? = some (arrV (xA C ty_pos) N (fun _ => .null)) := by rw [← hH1, Array.getElem?_push_size, ← arrV_new]
  have o1 : ∀ q : Nat, q < H.size → H1[q]? = H[q]? := fun q hq => by rw [← hH1, Array.getElem?_push, if_neg (Nat.ne_of_lt hq)]
  have hP1 : HPh C (nx + 1) h H1 := by
    refine HPh_new hP hK z1 o1 ?_
    rw [ce_arrC C h hs, ← hsz]
    show H1[H.size]? = some (vp_cell (xA C ty_pos) (N, ac C h nx ty_pos))
    rw [e1]
    congr 1
    have h0 := hP.2.2.2.2.2 nx (Nat.le_refl _) hK
    have g1 : (fun j => (gR h nx j).map (ad C)) = fun _ => none := funext fun j => by rw [(h0 j).2.1]; rfl
    unfold ac
    simp only [g1]
    rfl
  have hS1 : va_S (xAl C) s9.heap H1 locs := ⟨Nat.le_trans hS.1 (by omega), fun x h1 h2 => (o1 x (Nat.lt_of_lt_of_le h1 hS.1)).trans (hS.2.1 x h1 h2), hS.2.2⟩
  have h9 := kk p l e s9 m args below meth c Fin cz hr hx hzz H1 locs ls hP1 hS1 hL
  rw [List.map_cons, up_ref, ad_l9 h9k, ← hsz] at h9
  exact h9
theorem c_obj {idx a : Nat} (hd : decode (mB M) pc = .ok (.invokespecial idx, 3)) (hlk : Cond.methodLink (mY M).cls idx Lib.objectInit ∈ lw_all ∧ Cond.instanceMethod Lib.objectInit ∈ lw_all ∧ Cond.code Lib.objectInit ⟨#[0xb1]⟩ 1 none ∈ lw_all) (hdd : 1 ≤ d) (hw : (st.map fun v => v.category).sum ≤ 8) (kk : ww C M d mc ms ne Qr Qx nx k n (pc + 3) lv st h) : ww C M d mc ms ne Qr Qx nx k n pc lv (.ref a :: st) h := by
  intro p l e s m args below meth c Fin cz hr hx hzz H locs ls hP hS hL
  exact W.objInit (rest := st.map (up C)) cz.1.1 cz.1.2.1 cz.1.2.2.2.2 (cz.2.1 _ hlk.1) (cz.2.1 _ hlk.2.1) (cz.2.1 _ hlk.2.2) rfl (hL.1.trans cz.1.2.2.2.1.symm) rfl hd hdd (by rw [up_sum]; show 2 * 0 + _ + 12 ≤ 70 * d; omega) (kk p l e s m args below meth c Fin cz hr hx hzz H locs ls hP hS hL)
theorem c_putR (ci f : Nat) {idx a b : Nat} (hd : decode (mB M) pc = .ok (.putfield idx, 3)) (hf : putOK M idx ci f) (hty : isR (cty ci f) = true) (hs : shp a = some (.inl ci)) (ha : a < nx) (kk : ww C M d mc ms ne Qr Qx nx k n (pc + 3) lv st (hcb Rb ((a, f, b) :: L) s)) : ww C M d mc ms ne Qr Qx nx k n pc lv (.ref b :: .ref a :: st) (hcb Rb L s) :=
  w_putR ci f hd hf hty (shp_C hs) ha kk
theorem c_putI (ci f : Nat) {idx a : Nat} {x : Int} (hd : decode (mB M) pc = .ok (.putfield idx, 3)) (hf : putOK M idx ci f) (hty : cty ci f = .int) (hs : shp a = some (.inl ci)) (ha : a < nx) (kk : ww C M d mc ms ne Qr Qx nx k n (pc + 3) lv st (hcb Rb L (si s a f x))) : ww C M d mc ms ne Qr Qx nx k n pc lv (vi x :: .ref a :: st) (hcb Rb L s) :=
  w_putI ci f hd hf (by rw [hty]; rfl) (shp_C hs) ha (by rw [hty]; rfl) (by rw [hty]; rfl) (by rw [hcb_sI]; exact kk)
theorem c_aast {a b N : Nat} {x : Int} (j : Nat) (hx : x = (j : Int)) (hj : j < N) (hN : N ≤ 4096) (hd : decode (mB M) pc = .ok (.aastore, 1)) (hs : shp a = some (.inr (ty_pos, N))) (ha : a < nx) (hsb : shp b = some (.inl 9)) (hb : b < nx) (kk : ww C M d mc ms ne Qr Qx nx k n (pc + 1) lv st (hcb Rb ((a, j, b) :: L) s)) : ww C M d mc ms ne Qr Qx nx k n pc lv (.ref b :: vi x :: .ref a :: st) (hcb Rb L s) := by
  subst hx
  intro p l e s9 m args below meth c Fin cz hr hx hzz H locs ls hP hS hL
  show W p l e _ s9 m args below meth c H locs k n Fin (F0 m pc ls (.ref (ad C b) :: .int (Int32.ofInt (j : Int)) :: .ref (ad C a) :: st.map (up C)))
  rw [ad_lt (shp_lt hs), ad_lt (shp_lt hsb)]
  have hc9 : vwCl[9]? = some (cR 9, cT 9, cn 9) := cl_at (by decide)
  have hR : R (j : Int) := by unfold R; omega
  have h0 : ¬ Int32.ofInt (j : Int) < 0 := by rw [z32, c32l hR R0]; omega
  have h3 : (Int32.ofInt (j : Int)).toNatClampNeg = j := by
    show (Int32.ofInt (j : Int)).toInt.toNat = j
    rw [t32 hR]
    exact Int.toNat_natCast j
  have hKK := cz.2.2.2.1.1
  have hA : va_at (xD C) vwCl (xB C + a, .inl (xA C ty_pos, N, ac C (hcb Rb L s) a ty_pos)) H := by
    have h9 := hP.1 a _ (wl_at C nx (hcb Rb L s) ha)
    rw [ce_arr C _ hs] at h9
    exact h9
  have hV : va_at (xD C) vwCl (xB C + b, .inr (9, (List.range (cn 9)).map (fun q => fv C (hcb Rb L s) b q (cty 9 q)))) H := by
    have h9 := hP.1 b _ (wl_at C nx (hcb Rb L s) hb)
    rw [ce_obj C _ hsb] at h9
    exact h9
  obtain ⟨r', -, cellV, g1, g2, g3, -⟩ := hV
  have hcls := (hKK.1 9 _ hc9).2
  obtain ⟨kA, comp, k1, k2, k3, -⟩ := (hKK.2 3 (xA C ty_pos, ty_pos) rfl).2
  have hcomp : comp = (xD C).1 9 := Option.some.inj (k3.symm.trans hcls.1)
  subst hcomp
  obtain ⟨kC, hkC, -⟩ := hcls.2
  have hA' : H[xB C + a]? = some (vp_cell (xA C ty_pos) (N, ac C (hcb Rb L s) a ty_pos)) := hA
  refine W.aast cz.1.1 cz.1.2.1 hA' (fun q h => by cases h) (fun h => by cases h) k1 k2 rfl hkC ⟨h0, by rw [h3]; show j < (arrV _ _ _).slots.size; rw [arrV_size]; exact hj⟩ g1 (fun q h => by rw [g3] at h; cases h) (by rw [g2]; exact hkC) (by rw [g2]; exact va_assign hcls) rfl rfl hd fun H1 e1 z1 o1 => ?_
  have hnb : ∀ i, i ≠ a → ∀ q, gR (hcb Rb ((a, j, b) :: L) s) i q = gR (hcb Rb L s) i q := fun i hi q => by
    show (if i = a ∧ q = j then some b else rfo Rb L i q) = rfo Rb L i q
    rw [if_neg (fun e => hi e.1)]
  obtain ⟨p1, p2, p3, p4, p5, p6⟩ := hP
  have haK := shp_lt hs
  have key : HPh C nx (hcb Rb ((a, j, b) :: L) s) H1 := by
    refine ⟨fun i q hi => ?_, p2, by rw [z1]; exact p3, by rw [z1]; exact p4, p5, fun i g1 g2 q => ?_⟩
    · have hl : i < nx := by have := (List.getElem?_eq_some_iff.mp hi).1; rwa [wl_len] at this
      rw [wl_at C nx _ hl] at hi
      cases hi
      by_cases hia : i = a
      · subst hia
        rw [ce_arr C _ hs]
        show H1[xB C + i]? = some (vp_cell (xA C ty_pos) (N, ac C (hcb Rb ((i, j, b) :: L) s) i ty_pos))
        rw [e1]
        congr 1
        show (vp_cell (xA C ty_pos) (N, .inr (.inr (.inr (.inr (fun q => (gR (hcb Rb L s) i q).map (ad C))))))).setSlot _ _ = vp_cell (xA C ty_pos) (N, .inr (.inr (.inr (.inr (fun q => (gR (hcb Rb ((i, j, b) :: L) s) i q).map (ad C))))))
        rw [vp_cell_q, vp_cell_q, arrV_store]
        congr 1
        funext q
        rw [h3]
        show updV _ _ _ q = va_rf ((if i = i ∧ q = j then some b else rfo Rb L i q).map (ad C))
        by_cases hq : q = j
        · subst hq
          rw [if_pos ⟨rfl, rfl⟩]
          simp only [updV, if_true, Option.map_some, va_rf, ad_lt (shp_lt hsb)]
        · rw [if_neg (fun e => hq e.2)]
          simp only [updV, hq, if_false]
          rfl
      · have h9 := p1 i _ (wl_at C nx (hcb Rb L s) hl)
        rw [← ce_congr C (hcb Rb ((a, j, b) :: L) s) (hcb Rb L s) i (fun _ => rfl) (fun q => (hnb i hia q).symm) (fun _ => rfl) (fun _ => rfl)]
        exact h9.kept (o1 (xB C + i) (fun e => hia (Nat.add_left_cancel e)))
    · obtain ⟨r1, r2, r3, r4⟩ := p6 i g1 g2 q
      exact ⟨r1, by rw [hnb i (by omega) q]; exact r2, r3, r4⟩
  exact kk p l e s9 m args below meth c Fin cz hr hx hzz H1 _ ls key (hS.put z1 o1 (show xB C ≤ xB C + a from Nat.le_add_right _ _)) hL
theorem c_init (M' : Mk) (As : List Value) (st : List Value) {idx d' mc' ms' ne' b k' n' : Nat} {h2 : Hp} (hst : stk = As.reverse ++ .ref b :: st) (e1 : k + mc' = k') (e2 : n + ms' = n') (hd : decode (mB M) pc = .ok (.invokespecial idx, 3)) (hlk : LKI M M' idx As.length) (hdd : d' + 1 ≤ d) (hk : k' ≤ mc) (hn : n' ≤ ms) (hw : (st.map fun v => v.category).sum ≤ 8)
    (hm : mm C M' d' mc' ms' nx ne' (.ref b :: As) h (fun v h' => v = none ∧ h' = h2) XF) (kk : ww C M d mc ms ne Qr Qx ne' k' n' (pc + 3) lv st h2) : ww C M d mc ms ne Qr Qx nx k n pc lv stk h := by
  subst hst e1 e2
  refine w_callI M' As hd hlk hdd hk hn hw hm XOK.no fun v h' q => ?_
  obtain ⟨rfl, rfl⟩ := q
  exact kk
theorem c_getR (ci f : Nat) {idx a b : Nat} (hd : decode (mB M) pc = .ok (.getfield idx, 3)) (hf : FX M idx ci f) (hty : isR (cty ci f) = true) (hs : shp a = some (.inl ci)) (ha : a < nx) (hb : rfo Rb L a f = some b) (kk : ww C M d mc ms ne Qr Qx nx k n (pc + 3) lv (.ref b :: st) (hcb Rb L s)) : ww C M d mc ms ne Qr Qx nx k n pc lv (.ref a :: st) (hcb Rb L s) :=
  hf.elim (fun hf => w_getR ci f hd hf hty (shp_C hs) ha hb kk) (fun hf => w_getRn ci f hd hf hty (shp_C hs) ha hb kk)
theorem c_ge_f {x y : Int} {off : Int} {tgt : Nat} (h1 : R x ∧ R y ∧ x < y) (hd : decode (mB M) pc = .ok (.if_icmp .ge off, 3)) (ht : (pc : Int) + off = (tgt : Int)) (kf : ww C M d mc ms ne Qr Qx nx k n (pc + 3) lv st h) : ww C M d mc ms ne Qr Qx nx k n pc lv (vi y :: vi x :: st) h :=
  w_icmpge hd ht (fun e => absurd e (by rw [c32m h1.2.1 h1.1]; omega)) (fun _ => kf)
theorem c_ge_t {x y : Int} {off : Int} {tgt : Nat} (h1 : R x ∧ R y ∧ y ≤ x) (hd : decode (mB M) pc = .ok (.if_icmp .ge off, 3)) (ht : (pc : Int) + off = (tgt : Int)) (kt : ww C M d mc ms ne Qr Qx nx k n tgt lv st h) : ww C M d mc ms ne Qr Qx nx k n pc lv (vi y :: vi x :: st) h :=
  w_icmpge hd ht (fun _ => kt) (fun e => absurd ((c32m h1.2.1 h1.1).mpr h1.2.2) e)
theorem rfo_far (Rb : Nat → Nat → Option Nat) {n1 : Nat} : ∀ (L : List (Nat × Nat × Nat)), (L.all fun e => decide (e.1 < n1) && decide (e.2.1 < 40)) = true → ∀ a f, (n1 ≤ a ∨ 40 ≤ f) → rfo Rb L a f = Rb a f
  | [], _, _, _, _ => rfl
  | (x, y, z) :: L, hL, a, f, h => by
    simp only [List.all_cons, Bool.and_eq_true, decide_eq_true_eq] at hL
    show (if a = x ∧ f = y then some z else rfo Rb L a f) = Rb a f
    rw [if_neg (fun e => by omega), rfo_far Rb L hL.2 a f h]
theorem RT_far : ∀ a f, 40 ≤ f → RT a f = none := by
  intro a f h
  unfold RT
  have h1 : ∀ l ∈ rtL, l.length ≤ 40 := by decide +kernel
  cases hq : rtL[a]? with
  | none => rfl
  | some l =>
    have h2 := h1 l (List.mem_of_getElem? hq)
    show (l[f]?).bind id = none
    rw [List.getElem?_eq_none (by omega)]
    rfl
theorem hcb_hp (L : List (Nat × Nat × Nat)) (s : Sg) (hL : (L.all fun e => decide (e.1 < 80) && decide (e.2.1 < 40)) = true) (hc : ∀ a, a < 80 → ∀ f, f < 40 → rfo (fun _ _ => none) L a f = RT a f) : hcb (fun _ _ => none) L s = hp 80 s := by
  unfold hcb hp
  refine Prod.ext rfl (Prod.ext ?_ rfl)
  funext a f
  show rfo (fun _ _ => none) L a f = if a < 80 then (if a < KN then RT a f else drf (s.2.2 a f)) else none
  by_cases ha : a < 80
  · rw [if_pos ha, if_pos (show a < KN from ha)]
    by_cases hf : f < 40
    · exact hc a ha f hf
    · rw [rfo_far _ L hL a f (Or.inr (by omega)), RT_far a f (by omega)]
  · rw [if_neg ha, rfo_far _ L hL a f (Or.inl (by omega))]
theorem hp_0 (s : Sg) : hp 0 s = hcb (fun _ _ => none) [] s := by
  unfold hcb hp
  refine Prod.ext rfl (Prod.ext ?_ rfl)
  funext a f
  show (if a < 0 then (if a < KN then RT a f else drf (s.2.2 a f)) else none) = none
  rw [if_neg (Nat.not_lt_zero a)]
/-- one more object, all null -/
theorem hp_more {nx : Nat} {s : Sg} (hK : KN ≤ nx) (h : ∀ f, gd s nx f = 0) : hp nx s = hp (nx + 1) s := by
  unfold hp
  refine Prod.ext rfl (Prod.ext ?_ rfl)
  funext a f
  show (if a < nx then (if a < KN then RT a f else drf (s.2.2 a f)) else none) = (if a < nx + 1 then (if a < KN then RT a f else drf (s.2.2 a f)) else none)
  by_cases h1 : a < nx
  · rw [if_pos h1, if_pos (show a < nx + 1 from Nat.lt_succ_of_lt h1)]
  · rw [if_neg h1]
    by_cases h2 : a < nx + 1
    · have e : a = nx := by omega
      subst e
      rw [if_pos h2, if_neg (Nat.not_lt.mpr hK)]
      show none = drf (gd s a f)
      rw [h f]
      rfl
    · rw [if_neg h2]
end CTOR

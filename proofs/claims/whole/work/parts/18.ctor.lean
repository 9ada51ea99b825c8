/-! ===== objects come ===== -/
def rfo (Rb : Nat → Nat → Option Nat) : List (Nat × Nat × Nat) → Nat → Nat → Option Nat
  | [], x, y => Rb x y
  | (a, k, b) :: L, x, y => if x = a ∧ y = k then some b else rfo Rb L x y
def hcb (Rb : Nat → Nat → Option Nat) (L : List (Nat × Nat × Nat)) (s : Sg) : Hp := (fun a f => Int32.ofInt (s.1 a f), rfo Rb L, fun a f => Int64.ofInt (s.2.1 a f), s.2.2)
theorem hcb_sR (Rb : Nat → Nat → Option Nat) (L : List (Nat × Nat × Nat)) (s : Sg) (a k b : Nat) : sR (hcb Rb L s) a k (some b) = hcb Rb ((a, k, b) :: L) s := rfl
theorem hcb_sI (Rb : Nat → Nat → Option Nat) (L : List (Nat × Nat × Nat)) (s : Sg) (a k : Nat) (v : Int) : sI (hcb Rb L s) a k (Int32.ofInt v) = hcb Rb L (si s a k v) := by
  unfold sI hcb si
  refine Prod.ext ?_ rfl
  funext b j
  show (if b = a ∧ j = k then Int32.ofInt v else Int32.ofInt (s.1 b j)) = Int32.ofInt (if b = a ∧ j = k then v else s.1 b j)
  split <;> rfl
theorem HPh_new {C : Cx} {nx : Nat} {h : Hp} {H H1 : Heap} (hP : HPh C nx h H) (hK : nx < KN) (hz : H1.size = H.size + 1) (ho : ∀ q, q < H.size → H1[q]? = H[q]?) (hat : va_at (xD C) vwCl (xB C + nx, ce C h nx) H1) : HPh C (nx + 1) h H1 := by
  obtain ⟨p1, p2, p3, p4, p5, p6⟩ := hP
  have e4 := p4 hK
  refine ⟨fun k q hk => ?_, p2, by omega, fun _ => by omega, hK, fun i h1 h2 j => p6 i (by omega) h2 j⟩
  have hl : k < nx + 1 := by have := (List.getElem?_eq_some_iff.mp hk).1; rwa [wl_len] at this
  rw [wl_at C (nx + 1) h hl] at hk
  cases hk
  by_cases hkn : k = nx
  · subst hkn; exact hat
  · have h0 := p1 k _ (wl_at C nx h (by omega : k < nx))
    exact h0.kept (ho _ (by have := h0.lt; exact this))
theorem fv_zero {C : Cx} {h : Hp} {i k : Nat} {ty : FieldType} (h0 : gI h i k = 0 ∧ gR h i k = none ∧ gL h i k = 0 ∧ gD h i k = 0) (hty : ty = .int ∨ ty = .boolean ∨ ty = .long ∨ isR ty = true) : fv C h i k ty = defaultValue ty := by
  obtain ⟨h1, h2, h3, h4⟩ := h0
  rcases hty with rfl | rfl | rfl | hr
  · show Value.int (gI h i k) = _; rw [h1]; rfl
  · show Value.int (gI h i k) = _; rw [h1]; rfl
  · show Value.long (gL h i k) = _; rw [h3]; rfl
  · rw [fv_R hr, h2]
    revert hr
    cases ty <;> intro hr <;> first | rfl | cases hr
theorem cty_ok : ∀ ci, ci < 13 → ∀ k, k < cn ci → (decide (cty ci k = .int) || decide (cty ci k = .boolean) || decide (cty ci k = .long) || isR (cty ci k)) = true := by decide +kernel
section CTOR
variable {C : Cx} {M : Mk} {d mc ms ne : Nat} {Qr : Option Value → Hp → Prop} {Qx : String → Hp → Prop} {nx k n pc : Nat} {lv lv' : List (Nat × Value)} {st stk : List Value} {h : Hp} {s : Sg} {Rb : Nat → Nat → Option Nat} {L : List (Nat × Nat × Nat)}
theorem c_new {nx' k' n' : Nat} (ci : Nat) {idx : Nat} (hd : decode (mB M) pc = .ok (.new idx, 3)) (hs : shp nx = some (.inl ci)) (hlk : Cond.classLink (mY M).cls idx (cR ci) ∈ lw_all ∧ Cond.instantiable (cR ci) (cn ci) ∈ lw_all ∧ Cond.initialized (cR ci) ∈ lw_all) (hk : k + 1 ≤ mc) (hn : n + cn ci ≤ ms) (e1 : nx + 1 = nx') (e2 : k + 1 = k') (e3 : n + cn ci = n') (kk : ww C M d mc ms ne Qr Qx nx' k' n' (pc + 3) lv (.ref nx :: st) h) : ww C M d mc ms ne Qr Qx nx k n pc lv st h := by
  subst e1 e2 e3
  intro p l e s m args below meth c Fin cz hr hx hzz H locs ls hP hS hL
  have hKn := cz.2.2.2.1.1.1 ci _ (cl_at (shp_cls hs))
  have hK := shp_lt hs
  have hsz := hP.2.2.2.1 hK
  refine W.newcK cz.1.1 cz.1.2.1 cz.1.2.2.2.2 (cz.2.1 _ hlk.1) (cz.2.1 _ hlk.2.1) (cz.2.1 _ hlk.2.2) rfl hd hk hn hKn.2.1 rfl fun H1 kC hkC e1 z1 o1 => ?_
  have hP1 : HPh C (nx + 1) h H1 := by
    refine HPh_new hP hK z1 o1 ?_
    rw [ce_obj C h hs, ← hsz]
    refine ⟨_, cl_at (shp_cls hs), (u_born (cty ci) cz.2.1 (in_ws ci (shp_cls hs)) hKn hkC e1 (cl_ty ci (shp_cls hs))).to (fun j hj => ?_)⟩
    have h0 := hP.2.2.2.2.2 nx (Nat.le_refl _) hK j
    have h1 := cty_ok ci (shp_cls hs) j hj
    simp only [Bool.or_eq_true, decide_eq_true_eq] at h1
    have e9 : ((List.range (cn ci)).map (fun k => fv C h nx k (cty ci k)))[j]? = some (fv C h nx j (cty ci j)) := fs_at hj
    show _ = ((List.range (cn ci)).map (fun k => fv C h nx k (cty ci k))).getD j Value.null
    rw [List.getD_eq_getElem?_getD, e9]
    refine (fv_zero h0 ?_).symm
    rcases h1 with ((h1 | h1) | h1) | h1
    · exact Or.inl h1
    · exact Or.inr (Or.inl h1)
    · exact Or.inr (Or.inr (Or.inl h1))
    · exact Or.inr (Or.inr (Or.inr h1))
  have hS1 : va_S (xAl C) s.heap H1 locs := ⟨Nat.le_trans hS.1 (by omega), fun x h1 h2 => (o1 x (Nat.lt_of_lt_of_le h1 hS.1)).trans (hS.2.1 x h1 h2), hS.2.2⟩
  have h9 := kk p l e s m args below meth c Fin cz hr hx hzz H1 locs ls hP1 hS1 hL
  rw [List.map_cons, up_ref, ad_lt hK, ← hsz] at h9
  exact h9
theorem c_newarr {nx' k' n' : Nat} (ty : FieldType) (N : Nat) {at_ : ArrayType} {x : Int} (hx : x = (N : Int)) (hN : N ≤ 4096) (hd : decode (mB M) pc = .ok (.newarray at_, 2)) (hty : newarray.typeOf at_ = ty) (hs : shp nx = some (.inr (ty, N))) (hpr : ty = .int ∨ ty = .boolean ∨ ty = .long ∨ ty = .byte ∨ ty = .double) (hlk : Cond.arrayClass ty ∈ lw_all) (hk : k + 1 ≤ mc) (hn : n + N ≤ ms) (e1 : nx + 1 = nx') (e2 : k + 1 = k') (e3 : n + N = n') (kk : ww C M d mc ms ne Qr Qx nx' k' n' (pc + 2) lv (.ref nx :: st) h) : ww C M d mc ms ne Qr Qx nx k n pc lv (vi x :: st) h := by
  subst e1 e2 e3
  subst hx
  subst hty
  intro p l e s9 m args below meth c Fin cz hr hx hzz H locs ls hP hS hL
  have hK := shp_lt hs
  have hsz := hP.2.2.2.1 hK
  have hR : R (N : Int) := by unfold R; omega
  have eN : (Int32.ofInt (N : Int)).toNatClampNeg = N := by
    show (Int32.ofInt (N : Int)).toInt.toNat = N
    rw [t32 hR]
    exact Int.toNat_natCast N
  have hNn : ¬ Int32.ofInt (N : Int) < 0 := by
    rw [z32, c32l hR R0]; omega
  have hcb : componentBytes (newarray.typeOf at_) ≤ 8 := by cases at_ <;> decide
  refine va_newaK (rest := st.map (up C)) cz.1.1 cz.1.2.1 (cz.2.1 _ hlk) rfl hd rfl hNn eN (Nat.le_trans (Nat.mul_le_mul hN hcb) (by decide)) hk hn hsz fun H1 cA e1 z1 o1 hAr hNm => ?_
  have hcA : cA = xA C (newarray.typeOf at_) := by
    have hmem : ∃ t0 : Nat, (tyl C)[t0]? = some (xA C (newarray.typeOf at_), newarray.typeOf at_) := by
      rcases hpr with h | h | h | h | h
      · exact ⟨0, by rw [h]; rfl⟩
      · exact ⟨3, by rw [h]; rfl⟩
      · exact ⟨1, by rw [h]; rfl⟩
      · exact ⟨4, by rw [h]; rfl⟩
      · exact ⟨2, by rw [h]; rfl⟩
    obtain ⟨t0, ht0⟩ := hmem
    have h1 := (cz.2.2.2.1.1.2 t0 _ ht0).2
    have h2 : s9.vm.findClass ("[" ++ (newarray.typeOf at_).toString) = some (xA C (newarray.typeOf at_)) := by
      revert h1
      rcases hpr with h | h | h | h | h <;> rw [h] <;> exact fun h1 => h1
    exact Option.some.inj (hNm.symm.trans h2)
  subst hcA
  have hP1 : HPh C (nx + 1) h H1 := by
    refine HPh_new hP hK (by rw [z1, hsz]) (fun q hq => o1 q (by rw [← hsz]; exact hq)) ?_
    rw [ce_arr C h hs]
    show H1[xB C + nx]? = some (vp_cell (xA C (newarray.typeOf at_)) (N, ac C h nx (newarray.typeOf at_)))
    rw [e1]
    congr 1
    have h0 := hP.2.2.2.2.2 nx (Nat.le_refl _) hK
    have g1 : gI h nx = fun _ => 0 := funext fun j => (h0 j).1
    have g3 : gL h nx = fun _ => 0 := funext fun j => (h0 j).2.2.1
    have g4 : gD h nx = fun _ => 0 := funext fun j => (h0 j).2.2.2
    rcases hpr with h | h | h | h | h <;> rw [h] <;> unfold ac <;> simp only [g1, g3, g4] <;> rfl
  have hS1 : va_S (xAl C) s9.heap H1 locs := ⟨Nat.le_trans hS.1 (by omega), fun x h1 h2 => (o1 x (by have := hS.1; omega)).trans (hS.2.1 x h1 h2), hS.2.2⟩
  have h9 := kk p l e s9 m args below meth c Fin cz hr hx hzz H1 locs ls hP1 hS1 hL
  rw [List.map_cons, up_ref, ad_lt hK] at h9
  exact h9
theorem c_newq {nx' k' n' : Nat} (N : Nat) {idx : Nat} {x : Int} (hx : x = (N : Int)) (hN : N ≤ 4096) (hd : decode (mB M) pc = .ok (.anewarray idx, 3)) (hs : shp nx = some (.inr (ty_pos, N))) (hlk : Cond.classLink (mY M).cls idx "HexArbiter$Position" ∈ lw_all) (hk : k + 1 ≤ mc) (hn : n + N ≤ ms) (e1 : nx + 1 = nx') (e2 : k + 1 = k') (e3 : n + N = n') (kk : ww C M d mc ms ne Qr Qx nx' k' n' (pc + 3) lv (.ref nx :: st) h) : ww C M d mc ms ne Qr Qx nx k n pc lv (vi x :: st) h := by
  subst e1 e2 e3
  subst hx
  intro p l e s9 m args below meth c Fin cz hr hx hzz H locs ls hP hS hL
  have hK := shp_lt hs
  have hsz := hP.2.2.2.1 hK
  have hR : R (N : Int) := by unfold R; omega
  have eN : (Int32.ofInt (N : Int)).toNatClampNeg = N := by
    show (Int32.ofInt (N : Int)).toInt.toNat = N
    rw [t32 hR]
    exact Int.toNat_natCast N
  have hNn : ¬ Int32.ofInt (N : Int) < 0 := by
    rw [z32, c32l hR R0]; omega
  refine W.anew (rest := st.map (up C)) cz.1.1 cz.1.2.1 cz.1.2.2.2.2 (cz.2.1 _ hlk) (va_AO.use cz.2.2.2.1.2.2.2.2.2.1.1.2.2.2) rfl hd rfl hNn (by rw [eN]; omega) hk (by rw [eN]; exact hn) fun cA kA comp f1 f2 f3 f4 => ?_
  rw [eN]
  have hcA : cA = xA C ty_pos := by
    obtain ⟨kA', comp', -, -, -, h4⟩ := (cz.2.2.2.1.1.2 5 _ rfl).2
    exact Option.some.inj (f1.symm.trans h4)
  subst hcA
  generalize hH1 : H.push ({ cls := xA C ty_pos, slots := Array.replicate N .null, vm := .none } : Cell) = H1
  have z1 : H1.size = H.size + 1 := by rw [← hH1, Array.size_push]
  have e1 : H1[H.size]? = some (arrV (xA C ty_pos) N (fun _ => .null)) := by rw [← hH1, Array.getElem?_push_size, ← arrV_new]
  have o1 : ∀ q : Nat, q < H.size → H1[q]? = H[q]? := fun q hq => by rw [← hH1, Array.getElem?_push, if_neg (Nat.ne_of_lt hq)]
  have hP1 : HPh C (nx + 1) h H1 := by
    refine HPh_new hP hK z1 o1 ?_
    rw [ce_arr C h hs, ← hsz]
    show H1[H.size]? = some (vp_cell (xA C ty_pos) (N, ac C h nx ty_pos))
    rw [e1]
    congr 1
    have h0 := hP.2.2.2.2.2 nx (Nat.le_refl _) hK
    have g1 : (fun j => (gR h nx j).map (ad C)) = fun _ => none := funext fun j => by rw [(h0 j).2.1]; rfl
    unfold ac
    simp only [g1]
    rfl
  have hS1 : va_S (xAl C) s9.heap H1 locs := ⟨Nat.le_trans hS.1 (by omega), fun x h1 h2 => (o1 x (Nat.lt_of_lt_of_le h1 hS.1)).trans (hS.2.1 x h1 h2), hS.2.2⟩
  have h9 := kk p l e s9 m args below meth c Fin cz hr hx hzz H1 locs ls hP1 hS1 hL
  rw [List.map_cons, up_ref, ad_lt hK, ← hsz] at h9
  exact h9
theorem c_obj {idx a : Nat} (hd : decode (mB M) pc = .ok (.invokespecial idx, 3)) (hlk : Cond.methodLink (mY M).cls idx Lib.objectInit ∈ lw_all ∧ Cond.instanceMethod Lib.objectInit ∈ lw_all ∧ Cond.code Lib.objectInit ⟨#[0xb1]⟩ 1 none ∈ lw_all) (hdd : 1 ≤ d) (hw : (st.map fun v => v.category).sum ≤ 8) (kk : ww C M d mc ms ne Qr Qx nx k n (pc + 3) lv st h) : ww C M d mc ms ne Qr Qx nx k n pc lv (.ref a :: st) h := by
  intro p l e s m args below meth c Fin cz hr hx hzz H locs ls hP hS hL
  exact W.objInit (rest := st.map (up C)) cz.1.1 cz.1.2.1 cz.1.2.2.2.2 (cz.2.1 _ hlk.1) (cz.2.1 _ hlk.2.1) (cz.2.1 _ hlk.2.2) rfl (hL.1.trans cz.1.2.2.2.1.symm) rfl hd hdd (by rw [up_sum]; show 2 * 0 + _ + 12 ≤ 70 * d; omega) (kk p l e s m args below meth c Fin cz hr hx hzz H locs ls hP hS hL)
theorem c_putR (ci f : Nat) {idx a b : Nat} (hd : decode (mB M) pc = .ok (.putfield idx, 3)) (hf : putOK M idx ci f) (hty : isR (cty ci f) = true) (hs : shp a = some (.inl ci)) (ha : a < nx) (kk : ww C M d mc ms ne Qr Qx nx k n (pc + 3) lv st (hcb Rb ((a, f, b) :: L) s)) : ww C M d mc ms ne Qr Qx nx k n pc lv (.ref b :: .ref a :: st) (hcb Rb L s) :=
  w_putR ci f hd hf hty hs ha kk
theorem c_putI (ci f : Nat) {idx a : Nat} {x : Int} (hd : decode (mB M) pc = .ok (.putfield idx, 3)) (hf : putOK M idx ci f) (hty : cty ci f = .int) (hs : shp a = some (.inl ci)) (ha : a < nx) (kk : ww C M d mc ms ne Qr Qx nx k n (pc + 3) lv st (hcb Rb L (si s a f x))) : ww C M d mc ms ne Qr Qx nx k n pc lv (vi x :: .ref a :: st) (hcb Rb L s) :=
  w_putI ci f hd hf (by rw [hty]; rfl) hs ha (by rw [hty]; rfl) (by rw [hty]; rfl) (by rw [hcb_sI]; exact kk)
theorem c_aast {a b N : Nat} {x : Int} (j : Nat) (hx : x = (j : Int)) (hj : j < N) (hN : N ≤ 4096) (hd : decode (mB M) pc = .ok (.aastore, 1)) (hs : shp a = some (.inr (ty_pos, N))) (ha : a < nx) (hsb : shp b = some (.inl 9)) (hb : b < nx) (kk : ww C M d mc ms ne Qr Qx nx k n (pc + 1) lv st (hcb Rb ((a, j, b) :: L) s)) : ww C M d mc ms ne Qr Qx nx k n pc lv (.ref b :: vi x :: .ref a :: st) (hcb Rb L s) := by
  subst hx
  intro p l e s9 m args below meth c Fin cz hr hx hzz H locs ls hP hS hL
  show W p l e _ s9 m args below meth c H locs k n Fin (F0 m pc ls (.ref (ad C b) :: .int (Int32.ofInt (j : Int)) :: .ref (ad C a) :: st.map (up C)))
  rw [ad_lt (shp_lt hs), ad_lt (shp_lt hsb)]
  have hc9 : vwCl[9]? = some (cR 9, cT 9, cn 9) := cl_at (by decide)
  have hR : R (j : Int) := by unfold R; omega
  have h0 : ¬ Int32.ofInt (j : Int) < 0 := by rw [z32, c32l hR R0]; omega
  have h3 : (Int32.ofInt (j : Int)).toNatClampNeg = j := by
    show (Int32.ofInt (j : Int)).toInt.toNat = j
    rw [t32 hR]
    exact Int.toNat_natCast j
  have hKK := cz.2.2.2.1.1
  have hA : va_at (xD C) vwCl (xB C + a, .inl (xA C ty_pos, N, ac C (hcb Rb L s) a ty_pos)) H := by
    have h9 := hP.1 a _ (wl_at C nx (hcb Rb L s) ha)
    rw [ce_arr C _ hs] at h9
    exact h9
  have hV : va_at (xD C) vwCl (xB C + b, .inr (9, (List.range (cn 9)).map (fun q => fv C (hcb Rb L s) b q (cty 9 q)))) H := by
    have h9 := hP.1 b _ (wl_at C nx (hcb Rb L s) hb)
    rw [ce_obj C _ hsb] at h9
    exact h9
  obtain ⟨r', -, cellV, g1, g2, g3, -⟩ := hV
  have hcls := (hKK.1 9 _ hc9).2
  obtain ⟨kA, comp, k1, k2, k3, -⟩ := (hKK.2 5 (xA C ty_pos, ty_pos) rfl).2
  have hcomp : comp = (xD C).1 9 := Option.some.inj (k3.symm.trans hcls.1)
  subst hcomp
  obtain ⟨kC, hkC, -⟩ := hcls.2
  have hA' : H[xB C + a]? = some (vp_cell (xA C ty_pos) (N, ac C (hcb Rb L s) a ty_pos)) := hA
  refine W.aast cz.1.1 cz.1.2.1 hA' (fun q h => by cases h) (fun h => by cases h) k1 k2 rfl hkC ⟨h0, by rw [h3]; show j < (arrV _ _ _).slots.size; rw [arrV_size]; exact hj⟩ g1 (fun q h => by rw [g3] at h; cases h) (by rw [g2]; exact hkC) (by rw [g2]; exact va_assign hcls) rfl rfl hd fun H1 e1 z1 o1 => ?_
  have hnb : ∀ i, i ≠ a → ∀ q, gR (hcb Rb ((a, j, b) :: L) s) i q = gR (hcb Rb L s) i q := fun i hi q => by
    show (if i = a ∧ q = j then some b else rfo Rb L i q) = rfo Rb L i q
    rw [if_neg (fun e => hi e.1)]
  obtain ⟨p1, p2, p3, p4, p5, p6⟩ := hP
  have haK := shp_lt hs
  have key : HPh C nx (hcb Rb ((a, j, b) :: L) s) H1 := by
    refine ⟨fun i q hi => ?_, p2, by rw [z1]; exact p3, fun hn => by rw [z1]; exact p4 hn, p5, fun i g1 g2 q => ?_⟩
    · have hl : i < nx := by have := (List.getElem?_eq_some_iff.mp hi).1; rwa [wl_len] at this
      rw [wl_at C nx _ hl] at hi
      cases hi
      by_cases hia : i = a
      · subst hia
        rw [ce_arr C _ hs]
        show H1[xB C + i]? = some (vp_cell (xA C ty_pos) (N, ac C (hcb Rb ((i, j, b) :: L) s) i ty_pos))
        rw [e1]
        congr 1
        show (vp_cell (xA C ty_pos) (N, .inr (.inr (.inr (.inr (fun q => (gR (hcb Rb L s) i q).map (ad C))))))).setSlot _ _ = vp_cell (xA C ty_pos) (N, .inr (.inr (.inr (.inr (fun q => (gR (hcb Rb ((i, j, b) :: L) s) i q).map (ad C))))))
        rw [vp_cell_q, vp_cell_q, arrV_store]
        congr 1
        funext q
        rw [h3]
        show updV _ _ _ q = va_rf ((if i = i ∧ q = j then some b else rfo Rb L i q).map (ad C))
        by_cases hq : q = j
        · subst hq
          rw [if_pos ⟨rfl, rfl⟩]
          simp only [updV, if_true, Option.map_some, va_rf, ad_lt (shp_lt hsb)]
        · rw [if_neg (fun e => hq e.2)]
          simp only [updV, hq, if_false]
          rfl
      · have h9 := p1 i _ (wl_at C nx (hcb Rb L s) hl)
        rw [← ce_congr C (hcb Rb ((a, j, b) :: L) s) (hcb Rb L s) i (fun _ => rfl) (fun q => (hnb i hia q).symm) (fun _ => rfl) (fun _ => rfl)]
        exact h9.kept (o1 (xB C + i) (fun e => hia (Nat.add_left_cancel e)))
    · obtain ⟨r1, r2, r3, r4⟩ := p6 i g1 g2 q
      exact ⟨r1, by rw [hnb i (by omega) q]; exact r2, r3, r4⟩
  exact kk p l e s9 m args below meth c Fin cz hr hx hzz H1 _ ls key (hS.put z1 o1 (show xB C ≤ xB C + a from Nat.le_add_right _ _)) hL
theorem c_init (M' : Mk) (As : List Value) (st : List Value) {idx d' mc' ms' ne' b k' n' : Nat} {h2 : Hp} (hst : stk = As.reverse ++ .ref b :: st) (e1 : k + mc' = k') (e2 : n + ms' = n') (hd : decode (mB M) pc = .ok (.invokespecial idx, 3)) (hlk : LKI M M' idx As.length) (hdd : d' + 1 ≤ d) (hk : k' ≤ mc) (hn : n' ≤ ms) (hw : (st.map fun v => v.category).sum ≤ 8)
    (hm : mm C M' d' mc' ms' nx ne' (.ref b :: As) h (fun v h' => v = none ∧ h' = h2) XF) (kk : ww C M d mc ms ne Qr Qx ne' k' n' (pc + 3) lv st h2) : ww C M d mc ms ne Qr Qx nx k n pc lv stk h := by
  subst hst e1 e2
  refine w_callI M' As hd hlk hdd hk hn hw hm XOK.no fun v h' q => ?_
  obtain ⟨rfl, rfl⟩ := q
  exact kk
theorem c_getR (ci f : Nat) {idx a b : Nat} (hd : decode (mB M) pc = .ok (.getfield idx, 3)) (hf : FX M idx ci f) (hty : isR (cty ci f) = true) (hs : shp a = some (.inl ci)) (ha : a < nx) (hb : rfo Rb L a f = some b) (kk : ww C M d mc ms ne Qr Qx nx k n (pc + 3) lv (.ref b :: st) (hcb Rb L s)) : ww C M d mc ms ne Qr Qx nx k n pc lv (.ref a :: st) (hcb Rb L s) :=
  hf.elim (fun hf => w_getR ci f hd hf hty hs ha hb kk) (fun hf => w_getRn ci f hd hf hty hs ha hb kk)
theorem c_ge_f {x y : Int} {off : Int} {tgt : Nat} (h1 : R x ∧ R y ∧ x < y) (hd : decode (mB M) pc = .ok (.if_icmp .ge off, 3)) (ht : (pc : Int) + off = (tgt : Int)) (kf : ww C M d mc ms ne Qr Qx nx k n (pc + 3) lv st h) : ww C M d mc ms ne Qr Qx nx k n pc lv (vi y :: vi x :: st) h :=
  w_icmpge hd ht (fun e => absurd e (by rw [c32m h1.2.1 h1.1]; omega)) (fun _ => kf)
theorem c_ge_t {x y : Int} {off : Int} {tgt : Nat} (h1 : R x ∧ R y ∧ y ≤ x) (hd : decode (mB M) pc = .ok (.if_icmp .ge off, 3)) (ht : (pc : Int) + off = (tgt : Int)) (kt : ww C M d mc ms ne Qr Qx nx k n tgt lv st h) : ww C M d mc ms ne Qr Qx nx k n pc lv (vi y :: vi x :: st) h :=
  w_icmpge hd ht (fun _ => kt) (fun e => absurd ((c32m h1.2.1 h1.1).mpr h1.2.2) e)
theorem rfo_far (Rb : Nat → Nat → Option Nat) {n1 : Nat} : ∀ (L : List (Nat × Nat × Nat)), (L.all fun e => decide (e.1 < n1) && decide (e.2.1 < 40)) = true → ∀ a f, (n1 ≤ a ∨ 40 ≤ f) → rfo Rb L a f = Rb a f
  | [], _, _, _, _ => rfl
  | (x, y, z) :: L, hL, a, f, h => by
    simp only [List.all_cons, Bool.and_eq_true, decide_eq_true_eq] at hL
    show (if a = x ∧ f = y then some z else rfo Rb L a f) = Rb a f
    rw [if_neg (fun e => by omega), rfo_far Rb L hL.2 a f h]
def Rbe (n : Nat) (a f : Nat) : Option Nat := if a < n then RT a f else none
theorem RT_far : ∀ a f, 40 ≤ f → RT a f = none := by
  intro a f h
  unfold RT
  have h1 : ∀ l ∈ rtL, l.length ≤ 40 := by decide +kernel
  cases hq : rtL[a]? with
  | none => rfl
  | some l =>
    have h2 := h1 l (List.mem_of_getElem? hq)
    show (l[f]?).bind id = none
    rw [List.getElem?_eq_none (by omega)]
    rfl
theorem hcb_hp (n0 n1 : Nat) (L : List (Nat × Nat × Nat)) (s : Sg) (h01 : n0 ≤ n1) (hL : (L.all fun e => decide (e.1 < n1) && decide (e.2.1 < 40)) = true) (hc : ∀ a, a < n1 → ∀ f, f < 40 → rfo (Rbe n0) L a f = RT a f) : hcb (Rbe n0) L s = hp n1 s := by
  unfold hcb hp
  refine Prod.ext rfl (Prod.ext ?_ rfl)
  funext a f
  show rfo (Rbe n0) L a f = if a < n1 then RT a f else none
  by_cases ha : a < n1
  · rw [if_pos ha]
    by_cases hf : f < 40
    · exact hc a ha f hf
    · rw [rfo_far _ L hL a f (Or.inr (by omega)), RT_far a f (by omega)]
      unfold Rbe
      split
      · exact RT_far a f (by omega)
      · rfl
  · rw [if_neg ha, rfo_far _ L hL a f (Or.inl (by omega))]
    unfold Rbe
    rw [if_neg (by omega)]
theorem hp_hcb (n : Nat) (s : Sg) : hp n s = hcb (Rbe n) [] s := rfl
end CTOR
abbrev M_X0_init : Mk := (yX0_init, cX0_init, 2, none, [])
abbrev M_X10_init : Mk := (yX10_init, cX10_init, 4, none, [])
abbrev M_X11_init : Mk := (yX11_init, cX11_init, 1, none, [])
abbrev M_X12_init : Mk := (yX12_init, cX12_init, 1, none, [])
abbrev M_X1_init : Mk := (yX1_init, cX1_init, 2, none, [])
abbrev M_X2_init : Mk := (yX2_init, cX2_init, 3, none, [])
abbrev M_X3_init : Mk := (yX3_init, cX3_init, 3, none, [])
abbrev M_X4_init : Mk := (yX4_init, cX4_init, 2, none, [])
abbrev M_X5_init : Mk := (yX5_init, cX5_init, 1, none, [])
abbrev M_X6_init : Mk := (yX6_init, cX6_init, 2, none, [])
abbrev M_X7_init : Mk := (yX7_init, cX7_init, 2, none, [])
abbrev M_X8_init : Mk := (yX8_init, cX8_init, 2, none, [])
abbrev M_X9_init : Mk := (yX9_init, cX9_init, 1, none, [])
theorem lk0_X0_init : LK0 M_X0_init 1 := ⟨(lw_all_mem (List.mem_append_right _ (List.mem_of_getElem? (i := 9) (by decide +kernel))) (by decide +kernel)), (lw_all_mem (List.mem_append_right _ (List.mem_of_getElem? (i := 213) (by decide +kernel))) (by decide +kernel)), ⟨by decide +kernel, by decide +kernel, by decide +kernel⟩, by decide +kernel⟩
theorem lk0_X10_init : LK0 M_X10_init 3 := ⟨(lw_all_mem (List.mem_append_right _ (List.mem_of_getElem? (i := 8) (by decide +kernel))) (by decide +kernel)), (lw_all_mem (List.mem_append_right _ (List.mem_of_getElem? (i := 167) (by decide +kernel))) (by decide +kernel)), ⟨by decide +kernel, by decide +kernel, by decide +kernel⟩, by decide +kernel⟩
theorem lk0_X11_init : LK0 M_X11_init 0 := ⟨(lw_all_mem (List.mem_append_right _ (List.mem_of_getElem? (i := 1) (by decide +kernel))) (by decide +kernel)), (lw_all_mem (List.mem_append_right _ (List.mem_of_getElem? (i := 29) (by decide +kernel))) (by decide +kernel)), ⟨by decide +kernel, by decide +kernel, by decide +kernel⟩, by decide +kernel⟩
theorem lk0_X12_init : LK0 M_X12_init 0 := ⟨(lw_all_mem (List.mem_append_right _ (List.mem_of_getElem? (i := 14) (by decide +kernel))) (by decide +kernel)), (lw_all_mem (List.mem_append_right _ (List.mem_of_getElem? (i := 1298) (by decide +kernel))) (by decide +kernel)), ⟨by decide +kernel, by decide +kernel, by decide +kernel⟩, by decide +kernel⟩
theorem lk0_X1_init : LK0 M_X1_init 1 := ⟨(lw_all_mem (List.mem_append_right _ (List.mem_of_getElem? (i := 6) (by decide +kernel))) (by decide +kernel)), (lw_all_mem (List.mem_append_right _ (List.mem_of_getElem? (i := 149) (by decide +kernel))) (by decide +kernel)), ⟨by decide +kernel, by decide +kernel, by decide +kernel⟩, by decide +kernel⟩
theorem lk0_X2_init : LK0 M_X2_init 2 := ⟨(lw_all_mem (List.mem_append_right _ (List.mem_of_getElem? (i := 12) (by decide +kernel))) (by decide +kernel)), (lw_all_mem (List.mem_append_right _ (List.mem_of_getElem? (i := 283) (by decide +kernel))) (by decide +kernel)), ⟨by decide +kernel, by decide +kernel, by decide +kernel⟩, by decide +kernel⟩
theorem lk0_X3_init : LK0 M_X3_init 2 := ⟨(lw_all_mem (List.mem_append_right _ (List.mem_of_getElem? (i := 13) (by decide +kernel))) (by decide +kernel)), (lw_all_mem (List.mem_append_right _ (List.mem_of_getElem? (i := 308) (by decide +kernel))) (by decide +kernel)), ⟨by decide +kernel, by decide +kernel, by decide +kernel⟩, by decide +kernel⟩
theorem lk0_X4_init : LK0 M_X4_init 1 := ⟨(lw_all_mem (List.mem_append_right _ (List.mem_of_getElem? (i := 11) (by decide +kernel))) (by decide +kernel)), (lw_all_mem (List.mem_append_right _ (List.mem_of_getElem? (i := 264) (by decide +kernel))) (by decide +kernel)), ⟨by decide +kernel, by decide +kernel, by decide +kernel⟩, by decide +kernel⟩
theorem lk0_X5_init : LK0 M_X5_init 0 := ⟨(lw_all_mem (List.mem_append_right _ (List.mem_of_getElem? (i := 2) (by decide +kernel))) (by decide +kernel)), (lw_all_mem (List.mem_append_right _ (List.mem_of_getElem? (i := 37) (by decide +kernel))) (by decide +kernel)), ⟨by decide +kernel, by decide +kernel, by decide +kernel⟩, by decide +kernel⟩
theorem lk0_X6_init : LK0 M_X6_init 0 := ⟨(lw_all_mem (List.mem_append_right _ (List.mem_of_getElem? (i := 5) (by decide +kernel))) (by decide +kernel)), (lw_all_mem (List.mem_append_right _ (List.mem_of_getElem? (i := 129) (by decide +kernel))) (by decide +kernel)), ⟨by decide +kernel, by decide +kernel, by decide +kernel⟩, by decide +kernel⟩
theorem lk0_X7_init : LK0 M_X7_init 1 := ⟨(lw_all_mem (List.mem_append_right _ (List.mem_of_getElem? (i := 3) (by decide +kernel))) (by decide +kernel)), (lw_all_mem (List.mem_append_right _ (List.mem_of_getElem? (i := 67) (by decide +kernel))) (by decide +kernel)), ⟨by decide +kernel, by decide +kernel, by decide +kernel⟩, by decide +kernel⟩
theorem lk0_X8_init : LK0 M_X8_init 1 := ⟨(lw_all_mem (List.mem_append_right _ (List.mem_of_getElem? (i := 10) (by decide +kernel))) (by decide +kernel)), (lw_all_mem (List.mem_append_right _ (List.mem_of_getElem? (i := 245) (by decide +kernel))) (by decide +kernel)), ⟨by decide +kernel, by decide +kernel, by decide +kernel⟩, by decide +kernel⟩
theorem lk0_X9_init : LK0 M_X9_init 0 := ⟨(lw_all_mem (List.mem_append_right _ (List.mem_of_getElem? (i := 4) (by decide +kernel))) (by decide +kernel)), (lw_all_mem (List.mem_append_right _ (List.mem_of_getElem? (i := 92) (by decide +kernel))) (by decide +kernel)), ⟨by decide +kernel, by decide +kernel, by decide +kernel⟩, by decide +kernel⟩
theorem lkL_120 (M : Mk) (h : (mY M).cls = RL) : LKI M M_X11_init 120 0 := ⟨lk0_X11_init, by rw [h]; exact (lw_all_mem (List.mem_append_right _ (List.mem_of_getElem? (i := 27) (by decide +kernel))) (by decide +kernel)), (lw_all_mem (List.mem_append_right _ (List.mem_of_getElem? (i := 28) (by decide +kernel))) (by decide +kernel)), rfl, rfl⟩
theorem lkL_123 (M : Mk) (h : (mY M).cls = RL) : LKI M M_X12_init 123 0 := ⟨lk0_X12_init, by rw [h]; exact (lw_all_mem (List.mem_append_right _ (List.mem_of_getElem? (i := 1296) (by decide +kernel))) (by decide +kernel)), (lw_all_mem (List.mem_append_right _ (List.mem_of_getElem? (i := 1297) (by decide +kernel))) (by decide +kernel)), rfl, rfl⟩
theorem lkX10_25 (M : Mk) (h : (mY M).cls = RX10) : LKI M M_X9_init 25 0 := ⟨lk0_X9_init, by rw [h]; exact (lw_all_mem (List.mem_append_right _ (List.mem_of_getElem? (i := 170) (by decide +kernel))) (by decide +kernel)), (lw_all_mem (List.mem_append_right _ (List.mem_of_getElem? (i := 91) (by decide +kernel))) (by decide +kernel)), rfl, rfl⟩
theorem lkX11_104 (M : Mk) (h : (mY M).cls = RX11) : LKI M M_X3_init 104 2 := ⟨lk0_X3_init, by rw [h]; exact (lw_all_mem (List.mem_append_right _ (List.mem_of_getElem? (i := 306) (by decide +kernel))) (by decide +kernel)), (lw_all_mem (List.mem_append_right _ (List.mem_of_getElem? (i := 307) (by decide +kernel))) (by decide +kernel)), rfl, rfl⟩
theorem lkX11_112 (M : Mk) (h : (mY M).cls = RX11) : LKV M M_X9_begin 112 1 := ⟨lk0_X9_begin, by rw [h]; exact (lw_all_mem (List.mem_append_right _ (List.mem_of_getElem? (i := 357) (by decide +kernel))) (by decide +kernel)), (lw_all_mem (List.mem_append_right _ (List.mem_of_getElem? (i := 358) (by decide +kernel))) (by decide +kernel)), (lw_all_mem (List.mem_append_right _ (List.mem_of_getElem? (i := 359) (by decide +kernel))) (by decide +kernel))⟩
theorem lkX11_18 (M : Mk) (h : (mY M).cls = RX11) : LKI M M_X7_init 18 1 := ⟨lk0_X7_init, by rw [h]; exact (lw_all_mem (List.mem_append_right _ (List.mem_of_getElem? (i := 65) (by decide +kernel))) (by decide +kernel)), (lw_all_mem (List.mem_append_right _ (List.mem_of_getElem? (i := 66) (by decide +kernel))) (by decide +kernel)), rfl, rfl⟩
theorem lkX11_27 (M : Mk) (h : (mY M).cls = RX11) : LKI M M_X9_init 27 0 := ⟨lk0_X9_init, by rw [h]; exact (lw_all_mem (List.mem_append_right _ (List.mem_of_getElem? (i := 90) (by decide +kernel))) (by decide +kernel)), (lw_all_mem (List.mem_append_right _ (List.mem_of_getElem? (i := 91) (by decide +kernel))) (by decide +kernel)), rfl, rfl⟩
theorem lkX11_37 (M : Mk) (h : (mY M).cls = RX11) : LKI M M_X6_init 37 0 := ⟨lk0_X6_init, by rw [h]; exact (lw_all_mem (List.mem_append_right _ (List.mem_of_getElem? (i := 127) (by decide +kernel))) (by decide +kernel)), (lw_all_mem (List.mem_append_right _ (List.mem_of_getElem? (i := 128) (by decide +kernel))) (by decide +kernel)), rfl, rfl⟩
theorem lkX11_50 (M : Mk) (h : (mY M).cls = RX11) : LKI M M_X1_init 50 1 := ⟨lk0_X1_init, by rw [h]; exact (lw_all_mem (List.mem_append_right _ (List.mem_of_getElem? (i := 147) (by decide +kernel))) (by decide +kernel)), (lw_all_mem (List.mem_append_right _ (List.mem_of_getElem? (i := 148) (by decide +kernel))) (by decide +kernel)), rfl, rfl⟩
theorem lkX11_62 (M : Mk) (h : (mY M).cls = RX11) : LKI M M_X10_init 62 3 := ⟨lk0_X10_init, by rw [h]; exact (lw_all_mem (List.mem_append_right _ (List.mem_of_getElem? (i := 165) (by decide +kernel))) (by decide +kernel)), (lw_all_mem (List.mem_append_right _ (List.mem_of_getElem? (i := 166) (by decide +kernel))) (by decide +kernel)), rfl, rfl⟩
theorem lkX11_71 (M : Mk) (h : (mY M).cls = RX11) : LKI M M_X0_init 71 1 := ⟨lk0_X0_init, by rw [h]; exact (lw_all_mem (List.mem_append_right _ (List.mem_of_getElem? (i := 211) (by decide +kernel))) (by decide +kernel)), (lw_all_mem (List.mem_append_right _ (List.mem_of_getElem? (i := 212) (by decide +kernel))) (by decide +kernel)), rfl, rfl⟩
theorem lkX11_78 (M : Mk) (h : (mY M).cls = RX11) : LKI M M_X8_init 78 1 := ⟨lk0_X8_init, by rw [h]; exact (lw_all_mem (List.mem_append_right _ (List.mem_of_getElem? (i := 243) (by decide +kernel))) (by decide +kernel)), (lw_all_mem (List.mem_append_right _ (List.mem_of_getElem? (i := 244) (by decide +kernel))) (by decide +kernel)), rfl, rfl⟩
theorem lkX11_88 (M : Mk) (h : (mY M).cls = RX11) : LKI M M_X4_init 88 1 := ⟨lk0_X4_init, by rw [h]; exact (lw_all_mem (List.mem_append_right _ (List.mem_of_getElem? (i := 262) (by decide +kernel))) (by decide +kernel)), (lw_all_mem (List.mem_append_right _ (List.mem_of_getElem? (i := 263) (by decide +kernel))) (by decide +kernel)), rfl, rfl⟩
theorem lkX11_9 (M : Mk) (h : (mY M).cls = RX11) : LKI M M_X5_init 9 0 := ⟨lk0_X5_init, by rw [h]; exact (lw_all_mem (List.mem_append_right _ (List.mem_of_getElem? (i := 35) (by decide +kernel))) (by decide +kernel)), (lw_all_mem (List.mem_append_right _ (List.mem_of_getElem? (i := 36) (by decide +kernel))) (by decide +kernel)), rfl, rfl⟩
theorem lkX11_95 (M : Mk) (h : (mY M).cls = RX11) : LKI M M_X2_init 95 2 := ⟨lk0_X2_init, by rw [h]; exact (lw_all_mem (List.mem_append_right _ (List.mem_of_getElem? (i := 281) (by decide +kernel))) (by decide +kernel)), (lw_all_mem (List.mem_append_right _ (List.mem_of_getElem? (i := 282) (by decide +kernel))) (by decide +kernel)), rfl, rfl⟩
theorem lkX1_9 {M : Mk} (h : (mY M).cls = RX1) : Cond.methodLink (mY M).cls 9 Lib.Math.max.name ∈ lw_all ∧ Cond.static Lib.Math.max.name ∈ lw_all ∧ Cond.initialized "java/lang/Math" ∈ lw_all ∧ Cond.code Lib.Math.max.name Lib.Math.max.code 2 (some .int) ∈ lw_all := ⟨by rw [h]; exact (lw_all_mem (List.mem_append_right _ (List.mem_of_getElem? (i := 151) (by decide +kernel))) (by decide +kernel)), (lw_all_mem (List.mem_append_right _ (List.mem_of_getElem? (i := 152) (by decide +kernel))) (by decide +kernel)), (lw_all_mem (List.mem_append_right _ (List.mem_of_getElem? (i := 7) (by decide +kernel))) (by decide +kernel)), (lw_all_mem (List.mem_append_right _ (List.mem_of_getElem? (i := 153) (by decide +kernel))) (by decide +kernel))⟩
theorem lkX6_17 (M : Mk) (h : (mY M).cls = RX6) : LKI M M_X9_init 17 0 := ⟨lk0_X9_init, by rw [h]; exact (lw_all_mem (List.mem_append_right _ (List.mem_of_getElem? (i := 133) (by decide +kernel))) (by decide +kernel)), (lw_all_mem (List.mem_append_right _ (List.mem_of_getElem? (i := 91) (by decide +kernel))) (by decide +kernel)), rfl, rfl⟩
theorem na_boolean : Cond.arrayClass .boolean ∈ lw_all := (lw_all_mem (List.mem_append_right _ (List.mem_of_getElem? (i := 1413) (by decide +kernel))) (by decide +kernel))
theorem na_byte : Cond.arrayClass .byte ∈ lw_all := (lw_all_mem (List.mem_append_right _ (List.mem_of_getElem? (i := 601) (by decide +kernel))) (by decide +kernel))
theorem na_double : Cond.arrayClass .double ∈ lw_all := (lw_all_mem (List.mem_append_right _ (List.mem_of_getElem? (i := 1964) (by decide +kernel))) (by decide +kernel))
theorem na_int : Cond.arrayClass .int ∈ lw_all := (lw_all_mem (List.mem_append_right _ (List.mem_of_getElem? (i := 62) (by decide +kernel))) (by decide +kernel))
theorem na_long : Cond.arrayClass .long ∈ lw_all := (lw_all_mem (List.mem_append_right _ (List.mem_of_getElem? (i := 1963) (by decide +kernel))) (by decide +kernel))
theorem nqX6_9 {M : Mk} (h : (mY M).cls = RX6) : Cond.classLink (mY M).cls 9 "HexArbiter$Position" ∈ lw_all := by rw [h]; exact (lw_all_mem (List.mem_append_right _ (List.mem_of_getElem? (i := 131) (by decide +kernel))) (by decide +kernel))
theorem nwL_121 {M : Mk} (h : (mY M).cls = RL) : Cond.classLink (mY M).cls 121 (cR 12) ∈ lw_all ∧ Cond.instantiable (cR 12) (cn 12) ∈ lw_all ∧ Cond.initialized (cR 12) ∈ lw_all := ⟨by rw [h]; exact (lw_all_mem (List.mem_append_right _ (List.mem_of_getElem? (i := 1294) (by decide +kernel))) (by decide +kernel)), (lw_all_mem (List.mem_append_right _ (List.mem_of_getElem? (i := 1295) (by decide +kernel))) (by decide +kernel)), (lw_all_mem (List.mem_append_right _ (List.mem_of_getElem? (i := 14) (by decide +kernel))) (by decide +kernel))⟩
theorem nwL_8 {M : Mk} (h : (mY M).cls = RL) : Cond.classLink (mY M).cls 8 (cR 11) ∈ lw_all ∧ Cond.instantiable (cR 11) (cn 11) ∈ lw_all ∧ Cond.initialized (cR 11) ∈ lw_all := ⟨by rw [h]; exact (lw_all_mem (List.mem_append_right _ (List.mem_of_getElem? (i := 25) (by decide +kernel))) (by decide +kernel)), (lw_all_mem (List.mem_append_right _ (List.mem_of_getElem? (i := 26) (by decide +kernel))) (by decide +kernel)), (lw_all_mem (List.mem_append_right _ (List.mem_of_getElem? (i := 1) (by decide +kernel))) (by decide +kernel))⟩
theorem nwX10_23 {M : Mk} (h : (mY M).cls = RX10) : Cond.classLink (mY M).cls 23 (cR 9) ∈ lw_all ∧ Cond.instantiable (cR 9) (cn 9) ∈ lw_all ∧ Cond.initialized (cR 9) ∈ lw_all := ⟨by rw [h]; exact (lw_all_mem (List.mem_append_right _ (List.mem_of_getElem? (i := 169) (by decide +kernel))) (by decide +kernel)), (lw_all_mem (List.mem_append_right _ (List.mem_of_getElem? (i := 89) (by decide +kernel))) (by decide +kernel)), (lw_all_mem (List.mem_append_right _ (List.mem_of_getElem? (i := 4) (by decide +kernel))) (by decide +kernel))⟩
theorem nwX11_102 {M : Mk} (h : (mY M).cls = RX11) : Cond.classLink (mY M).cls 102 (cR 3) ∈ lw_all ∧ Cond.instantiable (cR 3) (cn 3) ∈ lw_all ∧ Cond.initialized (cR 3) ∈ lw_all := ⟨by rw [h]; exact (lw_all_mem (List.mem_append_right _ (List.mem_of_getElem? (i := 304) (by decide +kernel))) (by decide +kernel)), (lw_all_mem (List.mem_append_right _ (List.mem_of_getElem? (i := 305) (by decide +kernel))) (by decide +kernel)), (lw_all_mem (List.mem_append_right _ (List.mem_of_getElem? (i := 13) (by decide +kernel))) (by decide +kernel))⟩
theorem nwX11_16 {M : Mk} (h : (mY M).cls = RX11) : Cond.classLink (mY M).cls 16 (cR 7) ∈ lw_all ∧ Cond.instantiable (cR 7) (cn 7) ∈ lw_all ∧ Cond.initialized (cR 7) ∈ lw_all := ⟨by rw [h]; exact (lw_all_mem (List.mem_append_right _ (List.mem_of_getElem? (i := 63) (by decide +kernel))) (by decide +kernel)), (lw_all_mem (List.mem_append_right _ (List.mem_of_getElem? (i := 64) (by decide +kernel))) (by decide +kernel)), (lw_all_mem (List.mem_append_right _ (List.mem_of_getElem? (i := 3) (by decide +kernel))) (by decide +kernel))⟩
theorem nwX11_25 {M : Mk} (h : (mY M).cls = RX11) : Cond.classLink (mY M).cls 25 (cR 9) ∈ lw_all ∧ Cond.instantiable (cR 9) (cn 9) ∈ lw_all ∧ Cond.initialized (cR 9) ∈ lw_all := ⟨by rw [h]; exact (lw_all_mem (List.mem_append_right _ (List.mem_of_getElem? (i := 88) (by decide +kernel))) (by decide +kernel)), (lw_all_mem (List.mem_append_right _ (List.mem_of_getElem? (i := 89) (by decide +kernel))) (by decide +kernel)), (lw_all_mem (List.mem_append_right _ (List.mem_of_getElem? (i := 4) (by decide +kernel))) (by decide +kernel))⟩
theorem nwX11_35 {M : Mk} (h : (mY M).cls = RX11) : Cond.classLink (mY M).cls 35 (cR 6) ∈ lw_all ∧ Cond.instantiable (cR 6) (cn 6) ∈ lw_all ∧ Cond.initialized (cR 6) ∈ lw_all := ⟨by rw [h]; exact (lw_all_mem (List.mem_append_right _ (List.mem_of_getElem? (i := 125) (by decide +kernel))) (by decide +kernel)), (lw_all_mem (List.mem_append_right _ (List.mem_of_getElem? (i := 126) (by decide +kernel))) (by decide +kernel)), (lw_all_mem (List.mem_append_right _ (List.mem_of_getElem? (i := 5) (by decide +kernel))) (by decide +kernel))⟩
theorem nwX11_48 {M : Mk} (h : (mY M).cls = RX11) : Cond.classLink (mY M).cls 48 (cR 1) ∈ lw_all ∧ Cond.instantiable (cR 1) (cn 1) ∈ lw_all ∧ Cond.initialized (cR 1) ∈ lw_all := ⟨by rw [h]; exact (lw_all_mem (List.mem_append_right _ (List.mem_of_getElem? (i := 145) (by decide +kernel))) (by decide +kernel)), (lw_all_mem (List.mem_append_right _ (List.mem_of_getElem? (i := 146) (by decide +kernel))) (by decide +kernel)), (lw_all_mem (List.mem_append_right _ (List.mem_of_getElem? (i := 6) (by decide +kernel))) (by decide +kernel))⟩
theorem nwX11_60 {M : Mk} (h : (mY M).cls = RX11) : Cond.classLink (mY M).cls 60 (cR 10) ∈ lw_all ∧ Cond.instantiable (cR 10) (cn 10) ∈ lw_all ∧ Cond.initialized (cR 10) ∈ lw_all := ⟨by rw [h]; exact (lw_all_mem (List.mem_append_right _ (List.mem_of_getElem? (i := 163) (by decide +kernel))) (by decide +kernel)), (lw_all_mem (List.mem_append_right _ (List.mem_of_getElem? (i := 164) (by decide +kernel))) (by decide +kernel)), (lw_all_mem (List.mem_append_right _ (List.mem_of_getElem? (i := 8) (by decide +kernel))) (by decide +kernel))⟩
theorem nwX11_69 {M : Mk} (h : (mY M).cls = RX11) : Cond.classLink (mY M).cls 69 (cR 0) ∈ lw_all ∧ Cond.instantiable (cR 0) (cn 0) ∈ lw_all ∧ Cond.initialized (cR 0) ∈ lw_all := ⟨by rw [h]; exact (lw_all_mem (List.mem_append_right _ (List.mem_of_getElem? (i := 209) (by decide +kernel))) (by decide +kernel)), (lw_all_mem (List.mem_append_right _ (List.mem_of_getElem? (i := 210) (by decide +kernel))) (by decide +kernel)), (lw_all_mem (List.mem_append_right _ (List.mem_of_getElem? (i := 9) (by decide +kernel))) (by decide +kernel))⟩
theorem nwX11_7 {M : Mk} (h : (mY M).cls = RX11) : Cond.classLink (mY M).cls 7 (cR 5) ∈ lw_all ∧ Cond.instantiable (cR 5) (cn 5) ∈ lw_all ∧ Cond.initialized (cR 5) ∈ lw_all := ⟨by rw [h]; exact (lw_all_mem (List.mem_append_right _ (List.mem_of_getElem? (i := 33) (by decide +kernel))) (by decide +kernel)), (lw_all_mem (List.mem_append_right _ (List.mem_of_getElem? (i := 34) (by decide +kernel))) (by decide +kernel)), (lw_all_mem (List.mem_append_right _ (List.mem_of_getElem? (i := 2) (by decide +kernel))) (by decide +kernel))⟩
theorem nwX11_76 {M : Mk} (h : (mY M).cls = RX11) : Cond.classLink (mY M).cls 76 (cR 8) ∈ lw_all ∧ Cond.instantiable (cR 8) (cn 8) ∈ lw_all ∧ Cond.initialized (cR 8) ∈ lw_all := ⟨by rw [h]; exact (lw_all_mem (List.mem_append_right _ (List.mem_of_getElem? (i := 241) (by decide +kernel))) (by decide +kernel)), (lw_all_mem (List.mem_append_right _ (List.mem_of_getElem? (i := 242) (by decide +kernel))) (by decide +kernel)), (lw_all_mem (List.mem_append_right _ (List.mem_of_getElem? (i := 10) (by decide +kernel))) (by decide +kernel))⟩
theorem nwX11_86 {M : Mk} (h : (mY M).cls = RX11) : Cond.classLink (mY M).cls 86 (cR 4) ∈ lw_all ∧ Cond.instantiable (cR 4) (cn 4) ∈ lw_all ∧ Cond.initialized (cR 4) ∈ lw_all := ⟨by rw [h]; exact (lw_all_mem (List.mem_append_right _ (List.mem_of_getElem? (i := 260) (by decide +kernel))) (by decide +kernel)), (lw_all_mem (List.mem_append_right _ (List.mem_of_getElem? (i := 261) (by decide +kernel))) (by decide +kernel)), (lw_all_mem (List.mem_append_right _ (List.mem_of_getElem? (i := 11) (by decide +kernel))) (by decide +kernel))⟩
theorem nwX11_93 {M : Mk} (h : (mY M).cls = RX11) : Cond.classLink (mY M).cls 93 (cR 2) ∈ lw_all ∧ Cond.instantiable (cR 2) (cn 2) ∈ lw_all ∧ Cond.initialized (cR 2) ∈ lw_all := ⟨by rw [h]; exact (lw_all_mem (List.mem_append_right _ (List.mem_of_getElem? (i := 279) (by decide +kernel))) (by decide +kernel)), (lw_all_mem (List.mem_append_right _ (List.mem_of_getElem? (i := 280) (by decide +kernel))) (by decide +kernel)), (lw_all_mem (List.mem_append_right _ (List.mem_of_getElem? (i := 12) (by decide +kernel))) (by decide +kernel))⟩
theorem nwX6_9 {M : Mk} (h : (mY M).cls = RX6) : Cond.classLink (mY M).cls 9 (cR 9) ∈ lw_all ∧ Cond.instantiable (cR 9) (cn 9) ∈ lw_all ∧ Cond.initialized (cR 9) ∈ lw_all := ⟨by rw [h]; exact (lw_all_mem (List.mem_append_right _ (List.mem_of_getElem? (i := 131) (by decide +kernel))) (by decide +kernel)), (lw_all_mem (List.mem_append_right _ (List.mem_of_getElem? (i := 89) (by decide +kernel))) (by decide +kernel)), (lw_all_mem (List.mem_append_right _ (List.mem_of_getElem? (i := 4) (by decide +kernel))) (by decide +kernel))⟩
theorem obX0_3 {M : Mk} (h : (mY M).cls = RX0) : Cond.methodLink (mY M).cls 3 Lib.objectInit ∈ lw_all ∧ Cond.instanceMethod Lib.objectInit ∈ lw_all ∧ Cond.code Lib.objectInit ⟨#[0xb1]⟩ 1 none ∈ lw_all := ⟨by rw [h]; exact (lw_all_mem (List.mem_append_right _ (List.mem_of_getElem? (i := 214) (by decide +kernel))) (by decide +kernel)), (lw_all_mem (List.mem_append_right _ (List.mem_of_getElem? (i := 31) (by decide +kernel))) (by decide +kernel)), (lw_all_mem (List.mem_append_right _ (List.mem_of_getElem? (i := 32) (by decide +kernel))) (by decide +kernel))⟩
theorem obX10_3 {M : Mk} (h : (mY M).cls = RX10) : Cond.methodLink (mY M).cls 3 Lib.objectInit ∈ lw_all ∧ Cond.instanceMethod Lib.objectInit ∈ lw_all ∧ Cond.code Lib.objectInit ⟨#[0xb1]⟩ 1 none ∈ lw_all := ⟨by rw [h]; exact (lw_all_mem (List.mem_append_right _ (List.mem_of_getElem? (i := 168) (by decide +kernel))) (by decide +kernel)), (lw_all_mem (List.mem_append_right _ (List.mem_of_getElem? (i := 31) (by decide +kernel))) (by decide +kernel)), (lw_all_mem (List.mem_append_right _ (List.mem_of_getElem? (i := 32) (by decide +kernel))) (by decide +kernel))⟩
theorem obX11_1 {M : Mk} (h : (mY M).cls = RX11) : Cond.methodLink (mY M).cls 1 Lib.objectInit ∈ lw_all ∧ Cond.instanceMethod Lib.objectInit ∈ lw_all ∧ Cond.code Lib.objectInit ⟨#[0xb1]⟩ 1 none ∈ lw_all := ⟨by rw [h]; exact (lw_all_mem (List.mem_append_right _ (List.mem_of_getElem? (i := 30) (by decide +kernel))) (by decide +kernel)), (lw_all_mem (List.mem_append_right _ (List.mem_of_getElem? (i := 31) (by decide +kernel))) (by decide +kernel)), (lw_all_mem (List.mem_append_right _ (List.mem_of_getElem? (i := 32) (by decide +kernel))) (by decide +kernel))⟩
theorem obX12_3 {M : Mk} (h : (mY M).cls = RX12) : Cond.methodLink (mY M).cls 3 Lib.objectInit ∈ lw_all ∧ Cond.instanceMethod Lib.objectInit ∈ lw_all ∧ Cond.code Lib.objectInit ⟨#[0xb1]⟩ 1 none ∈ lw_all := ⟨by rw [h]; exact (lw_all_mem (List.mem_append_right _ (List.mem_of_getElem? (i := 1299) (by decide +kernel))) (by decide +kernel)), (lw_all_mem (List.mem_append_right _ (List.mem_of_getElem? (i := 31) (by decide +kernel))) (by decide +kernel)), (lw_all_mem (List.mem_append_right _ (List.mem_of_getElem? (i := 32) (by decide +kernel))) (by decide +kernel))⟩
theorem obX1_3 {M : Mk} (h : (mY M).cls = RX1) : Cond.methodLink (mY M).cls 3 Lib.objectInit ∈ lw_all ∧ Cond.instanceMethod Lib.objectInit ∈ lw_all ∧ Cond.code Lib.objectInit ⟨#[0xb1]⟩ 1 none ∈ lw_all := ⟨by rw [h]; exact (lw_all_mem (List.mem_append_right _ (List.mem_of_getElem? (i := 150) (by decide +kernel))) (by decide +kernel)), (lw_all_mem (List.mem_append_right _ (List.mem_of_getElem? (i := 31) (by decide +kernel))) (by decide +kernel)), (lw_all_mem (List.mem_append_right _ (List.mem_of_getElem? (i := 32) (by decide +kernel))) (by decide +kernel))⟩
theorem obX2_3 {M : Mk} (h : (mY M).cls = RX2) : Cond.methodLink (mY M).cls 3 Lib.objectInit ∈ lw_all ∧ Cond.instanceMethod Lib.objectInit ∈ lw_all ∧ Cond.code Lib.objectInit ⟨#[0xb1]⟩ 1 none ∈ lw_all := ⟨by rw [h]; exact (lw_all_mem (List.mem_append_right _ (List.mem_of_getElem? (i := 284) (by decide +kernel))) (by decide +kernel)), (lw_all_mem (List.mem_append_right _ (List.mem_of_getElem? (i := 31) (by decide +kernel))) (by decide +kernel)), (lw_all_mem (List.mem_append_right _ (List.mem_of_getElem? (i := 32) (by decide +kernel))) (by decide +kernel))⟩
theorem obX3_3 {M : Mk} (h : (mY M).cls = RX3) : Cond.methodLink (mY M).cls 3 Lib.objectInit ∈ lw_all ∧ Cond.instanceMethod Lib.objectInit ∈ lw_all ∧ Cond.code Lib.objectInit ⟨#[0xb1]⟩ 1 none ∈ lw_all := ⟨by rw [h]; exact (lw_all_mem (List.mem_append_right _ (List.mem_of_getElem? (i := 309) (by decide +kernel))) (by decide +kernel)), (lw_all_mem (List.mem_append_right _ (List.mem_of_getElem? (i := 31) (by decide +kernel))) (by decide +kernel)), (lw_all_mem (List.mem_append_right _ (List.mem_of_getElem? (i := 32) (by decide +kernel))) (by decide +kernel))⟩
theorem obX4_3 {M : Mk} (h : (mY M).cls = RX4) : Cond.methodLink (mY M).cls 3 Lib.objectInit ∈ lw_all ∧ Cond.instanceMethod Lib.objectInit ∈ lw_all ∧ Cond.code Lib.objectInit ⟨#[0xb1]⟩ 1 none ∈ lw_all := ⟨by rw [h]; exact (lw_all_mem (List.mem_append_right _ (List.mem_of_getElem? (i := 265) (by decide +kernel))) (by decide +kernel)), (lw_all_mem (List.mem_append_right _ (List.mem_of_getElem? (i := 31) (by decide +kernel))) (by decide +kernel)), (lw_all_mem (List.mem_append_right _ (List.mem_of_getElem? (i := 32) (by decide +kernel))) (by decide +kernel))⟩
theorem obX5_3 {M : Mk} (h : (mY M).cls = RX5) : Cond.methodLink (mY M).cls 3 Lib.objectInit ∈ lw_all ∧ Cond.instanceMethod Lib.objectInit ∈ lw_all ∧ Cond.code Lib.objectInit ⟨#[0xb1]⟩ 1 none ∈ lw_all := ⟨by rw [h]; exact (lw_all_mem (List.mem_append_right _ (List.mem_of_getElem? (i := 38) (by decide +kernel))) (by decide +kernel)), (lw_all_mem (List.mem_append_right _ (List.mem_of_getElem? (i := 31) (by decide +kernel))) (by decide +kernel)), (lw_all_mem (List.mem_append_right _ (List.mem_of_getElem? (i := 32) (by decide +kernel))) (by decide +kernel))⟩
theorem obX6_3 {M : Mk} (h : (mY M).cls = RX6) : Cond.methodLink (mY M).cls 3 Lib.objectInit ∈ lw_all ∧ Cond.instanceMethod Lib.objectInit ∈ lw_all ∧ Cond.code Lib.objectInit ⟨#[0xb1]⟩ 1 none ∈ lw_all := ⟨by rw [h]; exact (lw_all_mem (List.mem_append_right _ (List.mem_of_getElem? (i := 130) (by decide +kernel))) (by decide +kernel)), (lw_all_mem (List.mem_append_right _ (List.mem_of_getElem? (i := 31) (by decide +kernel))) (by decide +kernel)), (lw_all_mem (List.mem_append_right _ (List.mem_of_getElem? (i := 32) (by decide +kernel))) (by decide +kernel))⟩
theorem obX7_3 {M : Mk} (h : (mY M).cls = RX7) : Cond.methodLink (mY M).cls 3 Lib.objectInit ∈ lw_all ∧ Cond.instanceMethod Lib.objectInit ∈ lw_all ∧ Cond.code Lib.objectInit ⟨#[0xb1]⟩ 1 none ∈ lw_all := ⟨by rw [h]; exact (lw_all_mem (List.mem_append_right _ (List.mem_of_getElem? (i := 68) (by decide +kernel))) (by decide +kernel)), (lw_all_mem (List.mem_append_right _ (List.mem_of_getElem? (i := 31) (by decide +kernel))) (by decide +kernel)), (lw_all_mem (List.mem_append_right _ (List.mem_of_getElem? (i := 32) (by decide +kernel))) (by decide +kernel))⟩
theorem obX8_3 {M : Mk} (h : (mY M).cls = RX8) : Cond.methodLink (mY M).cls 3 Lib.objectInit ∈ lw_all ∧ Cond.instanceMethod Lib.objectInit ∈ lw_all ∧ Cond.code Lib.objectInit ⟨#[0xb1]⟩ 1 none ∈ lw_all := ⟨by rw [h]; exact (lw_all_mem (List.mem_append_right _ (List.mem_of_getElem? (i := 246) (by decide +kernel))) (by decide +kernel)), (lw_all_mem (List.mem_append_right _ (List.mem_of_getElem? (i := 31) (by decide +kernel))) (by decide +kernel)), (lw_all_mem (List.mem_append_right _ (List.mem_of_getElem? (i := 32) (by decide +kernel))) (by decide +kernel))⟩
theorem obX9_3 {M : Mk} (h : (mY M).cls = RX9) : Cond.methodLink (mY M).cls 3 Lib.objectInit ∈ lw_all ∧ Cond.instanceMethod Lib.objectInit ∈ lw_all ∧ Cond.code Lib.objectInit ⟨#[0xb1]⟩ 1 none ∈ lw_all := ⟨by rw [h]; exact (lw_all_mem (List.mem_append_right _ (List.mem_of_getElem? (i := 93) (by decide +kernel))) (by decide +kernel)), (lw_all_mem (List.mem_append_right _ (List.mem_of_getElem? (i := 31) (by decide +kernel))) (by decide +kernel)), (lw_all_mem (List.mem_append_right _ (List.mem_of_getElem? (i := 32) (by decide +kernel))) (by decide +kernel))⟩
theorem pfX0_15 {M : Mk} (h : (mY M).cls = RX0) (hi : (mY M).name = "<init>") : putOK M 15 0 1 := Or.inl ⟨⟨by rw [h]; exact (lw_all_mem (List.mem_append_right _ (List.mem_of_getElem? (i := 216) (by decide +kernel))) (by decide +kernel)), by decide⟩, Or.inr ⟨by decide, hi, by rw [h]; decide⟩⟩
theorem pfX0_19 {M : Mk} (h : (mY M).cls = RX0) (hi : (mY M).name = "<init>") : putOK M 19 0 2 := Or.inl ⟨⟨by rw [h]; exact (lw_all_mem (List.mem_append_right _ (List.mem_of_getElem? (i := 217) (by decide +kernel))) (by decide +kernel)), by decide⟩, Or.inr ⟨by decide, hi, by rw [h]; decide⟩⟩
theorem pfX0_22 {M : Mk} (h : (mY M).cls = RX0) (hi : (mY M).name = "<init>") : putOK M 22 0 3 := Or.inl ⟨⟨by rw [h]; exact (lw_all_mem (List.mem_append_right _ (List.mem_of_getElem? (i := 218) (by decide +kernel))) (by decide +kernel)), by decide⟩, Or.inr ⟨by decide, hi, by rw [h]; decide⟩⟩
theorem pfX0_25 {M : Mk} (h : (mY M).cls = RX0) (hi : (mY M).name = "<init>") : putOK M 25 0 4 := Or.inl ⟨⟨by rw [h]; exact (lw_all_mem (List.mem_append_right _ (List.mem_of_getElem? (i := 219) (by decide +kernel))) (by decide +kernel)), by decide⟩, Or.inr ⟨by decide, hi, by rw [h]; decide⟩⟩
theorem pfX0_28 {M : Mk} (h : (mY M).cls = RX0) (hi : (mY M).name = "<init>") : putOK M 28 0 5 := Or.inl ⟨⟨by rw [h]; exact (lw_all_mem (List.mem_append_right _ (List.mem_of_getElem? (i := 220) (by decide +kernel))) (by decide +kernel)), by decide⟩, Or.inr ⟨by decide, hi, by rw [h]; decide⟩⟩
theorem pfX0_31 {M : Mk} (h : (mY M).cls = RX0) (hi : (mY M).name = "<init>") : putOK M 31 0 6 := Or.inl ⟨⟨by rw [h]; exact (lw_all_mem (List.mem_append_right _ (List.mem_of_getElem? (i := 221) (by decide +kernel))) (by decide +kernel)), by decide⟩, Or.inr ⟨by decide, hi, by rw [h]; decide⟩⟩
theorem pfX0_9 {M : Mk} (h : (mY M).cls = RX0) (hi : (mY M).name = "<init>") : putOK M 9 0 0 := Or.inl ⟨⟨by rw [h]; exact (lw_all_mem (List.mem_append_right _ (List.mem_of_getElem? (i := 215) (by decide +kernel))) (by decide +kernel)), by decide⟩, Or.inr ⟨by decide, hi, by rw [h]; decide⟩⟩
theorem pfX10_15 {M : Mk} (h : (mY M).cls = RX10) (hi : (mY M).name = "<init>") : putOK M 15 10 1 := Or.inl ⟨⟨by rw [h]; exact (lw_all_mem (List.mem_append_right _ (List.mem_of_getElem? (i := 172) (by decide +kernel))) (by decide +kernel)), by decide⟩, Or.inr ⟨by decide, hi, by rw [h]; decide⟩⟩
theorem pfX10_19 {M : Mk} (h : (mY M).cls = RX10) (hi : (mY M).name = "<init>") : putOK M 19 10 2 := Or.inl ⟨⟨by rw [h]; exact (lw_all_mem (List.mem_append_right _ (List.mem_of_getElem? (i := 173) (by decide +kernel))) (by decide +kernel)), by decide⟩, Or.inr ⟨by decide, hi, by rw [h]; decide⟩⟩
theorem pfX10_26 {M : Mk} (h : (mY M).cls = RX10) (hi : (mY M).name = "<init>") : putOK M 26 10 3 := Or.inl ⟨⟨by rw [h]; exact (lw_all_mem (List.mem_append_right _ (List.mem_of_getElem? (i := 174) (by decide +kernel))) (by decide +kernel)), by decide⟩, Or.inr ⟨by decide, hi, by rw [h]; decide⟩⟩
theorem pfX10_9 {M : Mk} (h : (mY M).cls = RX10) (hi : (mY M).name = "<init>") : putOK M 9 10 0 := Or.inl ⟨⟨by rw [h]; exact (lw_all_mem (List.mem_append_right _ (List.mem_of_getElem? (i := 171) (by decide +kernel))) (by decide +kernel)), by decide⟩, Or.inr ⟨by decide, hi, by rw [h]; decide⟩⟩
theorem pfX11_10 {M : Mk} (h : (mY M).cls = RX11) (hi : (mY M).name = "<init>") : putOK M 10 11 0 := Or.inl ⟨⟨by rw [h]; exact (lw_all_mem (List.mem_append_right _ (List.mem_of_getElem? (i := 362) (by decide +kernel))) (by decide +kernel)), by decide⟩, Or.inr ⟨by decide, hi, by rw [h]; decide⟩⟩
theorem pfX11_105 {M : Mk} (h : (mY M).cls = RX11) (hi : (mY M).name = "<init>") : putOK M 105 11 15 := Or.inl ⟨⟨by rw [h]; exact (lw_all_mem (List.mem_append_right _ (List.mem_of_getElem? (i := 377) (by decide +kernel))) (by decide +kernel)), by decide⟩, Or.inr ⟨by decide, hi, by rw [h]; decide⟩⟩
theorem pfX11_21 {M : Mk} (h : (mY M).cls = RX11) (hi : (mY M).name = "<init>") : putOK M 21 11 1 := Or.inl ⟨⟨by rw [h]; exact (lw_all_mem (List.mem_append_right _ (List.mem_of_getElem? (i := 363) (by decide +kernel))) (by decide +kernel)), by decide⟩, Or.inr ⟨by decide, hi, by rw [h]; decide⟩⟩
theorem pfX11_28 {M : Mk} (h : (mY M).cls = RX11) (hi : (mY M).name = "<init>") : putOK M 28 11 2 := Or.inl ⟨⟨by rw [h]; exact (lw_all_mem (List.mem_append_right _ (List.mem_of_getElem? (i := 364) (by decide +kernel))) (by decide +kernel)), by decide⟩, Or.inr ⟨by decide, hi, by rw [h]; decide⟩⟩
theorem pfX11_32 {M : Mk} (h : (mY M).cls = RX11) (hi : (mY M).name = "<init>") : putOK M 32 11 3 := Or.inl ⟨⟨by rw [h]; exact (lw_all_mem (List.mem_append_right _ (List.mem_of_getElem? (i := 365) (by decide +kernel))) (by decide +kernel)), by decide⟩, Or.inr ⟨by decide, hi, by rw [h]; decide⟩⟩
theorem pfX11_38 {M : Mk} (h : (mY M).cls = RX11) (hi : (mY M).name = "<init>") : putOK M 38 11 4 := Or.inl ⟨⟨by rw [h]; exact (lw_all_mem (List.mem_append_right _ (List.mem_of_getElem? (i := 366) (by decide +kernel))) (by decide +kernel)), by decide⟩, Or.inr ⟨by decide, hi, by rw [h]; decide⟩⟩
theorem pfX11_42 {M : Mk} (h : (mY M).cls = RX11) (hi : (mY M).name = "<init>") : putOK M 42 11 5 := Or.inl ⟨⟨by rw [h]; exact (lw_all_mem (List.mem_append_right _ (List.mem_of_getElem? (i := 367) (by decide +kernel))) (by decide +kernel)), by decide⟩, Or.inr ⟨by decide, hi, by rw [h]; decide⟩⟩
theorem pfX11_45 {M : Mk} (h : (mY M).cls = RX11) (hi : (mY M).name = "<init>") : putOK M 45 11 6 := Or.inl ⟨⟨by rw [h]; exact (lw_all_mem (List.mem_append_right _ (List.mem_of_getElem? (i := 368) (by decide +kernel))) (by decide +kernel)), by decide⟩, Or.inr ⟨by decide, hi, by rw [h]; decide⟩⟩
theorem pfX11_53 {M : Mk} (h : (mY M).cls = RX11) (hi : (mY M).name = "<init>") : putOK M 53 11 7 := Or.inl ⟨⟨by rw [h]; exact (lw_all_mem (List.mem_append_right _ (List.mem_of_getElem? (i := 369) (by decide +kernel))) (by decide +kernel)), by decide⟩, Or.inr ⟨by decide, hi, by rw [h]; decide⟩⟩
theorem pfX11_57 {M : Mk} (h : (mY M).cls = RX11) (hi : (mY M).name = "<init>") : putOK M 57 11 8 := Or.inl ⟨⟨by rw [h]; exact (lw_all_mem (List.mem_append_right _ (List.mem_of_getElem? (i := 370) (by decide +kernel))) (by decide +kernel)), by decide⟩, Or.inr ⟨by decide, hi, by rw [h]; decide⟩⟩
theorem pfX11_65 {M : Mk} (h : (mY M).cls = RX11) (hi : (mY M).name = "<init>") : putOK M 65 11 9 := Or.inl ⟨⟨by rw [h]; exact (lw_all_mem (List.mem_append_right _ (List.mem_of_getElem? (i := 371) (by decide +kernel))) (by decide +kernel)), by decide⟩, Or.inr ⟨by decide, hi, by rw [h]; decide⟩⟩
theorem pfX11_72 {M : Mk} (h : (mY M).cls = RX11) (hi : (mY M).name = "<init>") : putOK M 72 11 10 := Or.inl ⟨⟨by rw [h]; exact (lw_all_mem (List.mem_append_right _ (List.mem_of_getElem? (i := 372) (by decide +kernel))) (by decide +kernel)), by decide⟩, Or.inr ⟨by decide, hi, by rw [h]; decide⟩⟩
theorem pfX11_79 {M : Mk} (h : (mY M).cls = RX11) (hi : (mY M).name = "<init>") : putOK M 79 11 11 := Or.inl ⟨⟨by rw [h]; exact (lw_all_mem (List.mem_append_right _ (List.mem_of_getElem? (i := 373) (by decide +kernel))) (by decide +kernel)), by decide⟩, Or.inr ⟨by decide, hi, by rw [h]; decide⟩⟩
theorem pfX11_83 {M : Mk} (h : (mY M).cls = RX11) (hi : (mY M).name = "<init>") : putOK M 83 11 12 := Or.inl ⟨⟨by rw [h]; exact (lw_all_mem (List.mem_append_right _ (List.mem_of_getElem? (i := 374) (by decide +kernel))) (by decide +kernel)), by decide⟩, Or.inr ⟨by decide, hi, by rw [h]; decide⟩⟩
theorem pfX11_89 {M : Mk} (h : (mY M).cls = RX11) (hi : (mY M).name = "<init>") : putOK M 89 11 13 := Or.inl ⟨⟨by rw [h]; exact (lw_all_mem (List.mem_append_right _ (List.mem_of_getElem? (i := 375) (by decide +kernel))) (by decide +kernel)), by decide⟩, Or.inr ⟨by decide, hi, by rw [h]; decide⟩⟩
theorem pfX11_98 {M : Mk} (h : (mY M).cls = RX11) (hi : (mY M).name = "<init>") : putOK M 98 11 14 := Or.inl ⟨⟨by rw [h]; exact (lw_all_mem (List.mem_append_right _ (List.mem_of_getElem? (i := 376) (by decide +kernel))) (by decide +kernel)), by decide⟩, Or.inr ⟨by decide, hi, by rw [h]; decide⟩⟩
theorem pfX12_13 {M : Mk} (h : (mY M).cls = RX12) (hi : (mY M).name = "<init>") : putOK M 13 12 2 := Or.inl ⟨⟨by rw [h]; exact (lw_all_mem (List.mem_append_right _ (List.mem_of_getElem? (i := 1306) (by decide +kernel))) (by decide +kernel)), by decide⟩, Or.inr ⟨by decide, hi, by rw [h]; decide⟩⟩
theorem pfX12_16 {M : Mk} (h : (mY M).cls = RX12) (hi : (mY M).name = "<init>") : putOK M 16 12 3 := Or.inl ⟨⟨by rw [h]; exact (lw_all_mem (List.mem_append_right _ (List.mem_of_getElem? (i := 1307) (by decide +kernel))) (by decide +kernel)), by decide⟩, Or.inr ⟨by decide, hi, by rw [h]; decide⟩⟩
theorem pfX12_19 {M : Mk} (h : (mY M).cls = RX12) (hi : (mY M).name = "<init>") : putOK M 19 12 4 := Or.inl ⟨⟨by rw [h]; exact (lw_all_mem (List.mem_append_right _ (List.mem_of_getElem? (i := 1308) (by decide +kernel))) (by decide +kernel)), by decide⟩, Or.inr ⟨by decide, hi, by rw [h]; decide⟩⟩
theorem pfX12_23 {M : Mk} (h : (mY M).cls = RX12) (hi : (mY M).name = "<init>") : putOK M 23 12 5 := Or.inl ⟨⟨by rw [h]; exact (lw_all_mem (List.mem_append_right _ (List.mem_of_getElem? (i := 1309) (by decide +kernel))) (by decide +kernel)), by decide⟩, Or.inr ⟨by decide, hi, by rw [h]; decide⟩⟩
theorem pfX12_26 {M : Mk} (h : (mY M).cls = RX12) (hi : (mY M).name = "<init>") : putOK M 26 12 7 := Or.inl ⟨⟨by rw [h]; exact (lw_all_mem (List.mem_append_right _ (List.mem_of_getElem? (i := 1311) (by decide +kernel))) (by decide +kernel)), by decide⟩, Or.inr ⟨by decide, hi, by rw [h]; decide⟩⟩
theorem pfX12_34 {M : Mk} (h : (mY M).cls = RX12) (hi : (mY M).name = "<init>") : putOK M 34 12 17 := Or.inl ⟨⟨by rw [h]; exact (lw_all_mem (List.mem_append_right _ (List.mem_of_getElem? (i := 1321) (by decide +kernel))) (by decide +kernel)), by decide⟩, Or.inr ⟨by decide, hi, by rw [h]; decide⟩⟩
theorem pfX12_37 {M : Mk} (h : (mY M).cls = RX12) (hi : (mY M).name = "<init>") : putOK M 37 12 18 := Or.inl ⟨⟨by rw [h]; exact (lw_all_mem (List.mem_append_right _ (List.mem_of_getElem? (i := 1322) (by decide +kernel))) (by decide +kernel)), by decide⟩, Or.inr ⟨by decide, hi, by rw [h]; decide⟩⟩
theorem pfX12_40 {M : Mk} (h : (mY M).cls = RX12) (hi : (mY M).name = "<init>") : putOK M 40 12 19 := Or.inl ⟨⟨by rw [h]; exact (lw_all_mem (List.mem_append_right _ (List.mem_of_getElem? (i := 1323) (by decide +kernel))) (by decide +kernel)), by decide⟩, Or.inr ⟨by decide, hi, by rw [h]; decide⟩⟩
theorem pfX12_43 {M : Mk} (h : (mY M).cls = RX12) (hi : (mY M).name = "<init>") : putOK M 43 12 20 := Or.inl ⟨⟨by rw [h]; exact (lw_all_mem (List.mem_append_right _ (List.mem_of_getElem? (i := 1324) (by decide +kernel))) (by decide +kernel)), by decide⟩, Or.inr ⟨by decide, hi, by rw [h]; decide⟩⟩
theorem pfX12_46 {M : Mk} (h : (mY M).cls = RX12) (hi : (mY M).name = "<init>") : putOK M 46 12 21 := Or.inl ⟨⟨by rw [h]; exact (lw_all_mem (List.mem_append_right _ (List.mem_of_getElem? (i := 1325) (by decide +kernel))) (by decide +kernel)), by decide⟩, Or.inr ⟨by decide, hi, by rw [h]; decide⟩⟩
theorem pfX12_49 {M : Mk} (h : (mY M).cls = RX12) (hi : (mY M).name = "<init>") : putOK M 49 12 22 := Or.inl ⟨⟨by rw [h]; exact (lw_all_mem (List.mem_append_right _ (List.mem_of_getElem? (i := 1326) (by decide +kernel))) (by decide +kernel)), by decide⟩, Or.inr ⟨by decide, hi, by rw [h]; decide⟩⟩
theorem pfX12_52 {M : Mk} (h : (mY M).cls = RX12) (hi : (mY M).name = "<init>") : putOK M 52 12 23 := Or.inl ⟨⟨by rw [h]; exact (lw_all_mem (List.mem_append_right _ (List.mem_of_getElem? (i := 1327) (by decide +kernel))) (by decide +kernel)), by decide⟩, Or.inr ⟨by decide, hi, by rw [h]; decide⟩⟩
theorem pfX12_55 {M : Mk} (h : (mY M).cls = RX12) (hi : (mY M).name = "<init>") : putOK M 55 12 28 := Or.inl ⟨⟨by rw [h]; exact (lw_all_mem (List.mem_append_right _ (List.mem_of_getElem? (i := 1332) (by decide +kernel))) (by decide +kernel)), by decide⟩, Or.inr ⟨by decide, hi, by rw [h]; decide⟩⟩
theorem pfX12_58 {M : Mk} (h : (mY M).cls = RX12) (hi : (mY M).name = "<init>") : putOK M 58 12 29 := Or.inl ⟨⟨by rw [h]; exact (lw_all_mem (List.mem_append_right _ (List.mem_of_getElem? (i := 1333) (by decide +kernel))) (by decide +kernel)), by decide⟩, Or.inr ⟨by decide, hi, by rw [h]; decide⟩⟩
theorem pfX12_61 {M : Mk} (h : (mY M).cls = RX12) (hi : (mY M).name = "<init>") : putOK M 61 12 30 := Or.inl ⟨⟨by rw [h]; exact (lw_all_mem (List.mem_append_right _ (List.mem_of_getElem? (i := 1334) (by decide +kernel))) (by decide +kernel)), by decide⟩, Or.inr ⟨by decide, hi, by rw [h]; decide⟩⟩
theorem pfX12_64 {M : Mk} (h : (mY M).cls = RX12) (hi : (mY M).name = "<init>") : putOK M 64 12 31 := Or.inl ⟨⟨by rw [h]; exact (lw_all_mem (List.mem_append_right _ (List.mem_of_getElem? (i := 1335) (by decide +kernel))) (by decide +kernel)), by decide⟩, Or.inr ⟨by decide, hi, by rw [h]; decide⟩⟩
theorem pfX12_67 {M : Mk} (h : (mY M).cls = RX12) (hi : (mY M).name = "<init>") : putOK M 67 12 32 := Or.inl ⟨⟨by rw [h]; exact (lw_all_mem (List.mem_append_right _ (List.mem_of_getElem? (i := 1336) (by decide +kernel))) (by decide +kernel)), by decide⟩, Or.inr ⟨by decide, hi, by rw [h]; decide⟩⟩
theorem pfX12_70 {M : Mk} (h : (mY M).cls = RX12) (hi : (mY M).name = "<init>") : putOK M 70 12 34 := Or.inl ⟨⟨by rw [h]; exact (lw_all_mem (List.mem_append_right _ (List.mem_of_getElem? (i := 1338) (by decide +kernel))) (by decide +kernel)), by decide⟩, Or.inr ⟨by decide, hi, by rw [h]; decide⟩⟩
theorem pfX12_9 {M : Mk} (h : (mY M).cls = RX12) (hi : (mY M).name = "<init>") : putOK M 9 12 1 := Or.inl ⟨⟨by rw [h]; exact (lw_all_mem (List.mem_append_right _ (List.mem_of_getElem? (i := 1305) (by decide +kernel))) (by decide +kernel)), by decide⟩, Or.inr ⟨by decide, hi, by rw [h]; decide⟩⟩
theorem pfX1_15 {M : Mk} (h : (mY M).cls = RX1) (hi : (mY M).name = "<init>") : putOK M 15 1 0 := Or.inl ⟨⟨by rw [h]; exact (lw_all_mem (List.mem_append_right _ (List.mem_of_getElem? (i := 154) (by decide +kernel))) (by decide +kernel)), by decide⟩, Or.inr ⟨by decide, hi, by rw [h]; decide⟩⟩
theorem pfX2_15 {M : Mk} (h : (mY M).cls = RX2) (hi : (mY M).name = "<init>") : putOK M 15 2 1 := Or.inl ⟨⟨by rw [h]; exact (lw_all_mem (List.mem_append_right _ (List.mem_of_getElem? (i := 286) (by decide +kernel))) (by decide +kernel)), by decide⟩, Or.inr ⟨by decide, hi, by rw [h]; decide⟩⟩
theorem pfX2_19 {M : Mk} (h : (mY M).cls = RX2) (hi : (mY M).name = "<init>") : putOK M 19 2 2 := Or.inl ⟨⟨by rw [h]; exact (lw_all_mem (List.mem_append_right _ (List.mem_of_getElem? (i := 287) (by decide +kernel))) (by decide +kernel)), by decide⟩, Or.inr ⟨by decide, hi, by rw [h]; decide⟩⟩
theorem pfX2_23 {M : Mk} (h : (mY M).cls = RX2) (hi : (mY M).name = "<init>") : putOK M 23 2 3 := Or.inl ⟨⟨by rw [h]; exact (lw_all_mem (List.mem_append_right _ (List.mem_of_getElem? (i := 288) (by decide +kernel))) (by decide +kernel)), by decide⟩, Or.inr ⟨by decide, hi, by rw [h]; decide⟩⟩
theorem pfX2_26 {M : Mk} (h : (mY M).cls = RX2) (hi : (mY M).name = "<init>") : putOK M 26 2 4 := Or.inl ⟨⟨by rw [h]; exact (lw_all_mem (List.mem_append_right _ (List.mem_of_getElem? (i := 289) (by decide +kernel))) (by decide +kernel)), by decide⟩, Or.inr ⟨by decide, hi, by rw [h]; decide⟩⟩
theorem pfX2_9 {M : Mk} (h : (mY M).cls = RX2) (hi : (mY M).name = "<init>") : putOK M 9 2 0 := Or.inl ⟨⟨by rw [h]; exact (lw_all_mem (List.mem_append_right _ (List.mem_of_getElem? (i := 285) (by decide +kernel))) (by decide +kernel)), by decide⟩, Or.inr ⟨by decide, hi, by rw [h]; decide⟩⟩
theorem pfX3_15 {M : Mk} (h : (mY M).cls = RX3) (hi : (mY M).name = "<init>") : putOK M 15 3 1 := Or.inl ⟨⟨by rw [h]; exact (lw_all_mem (List.mem_append_right _ (List.mem_of_getElem? (i := 311) (by decide +kernel))) (by decide +kernel)), by decide⟩, Or.inr ⟨by decide, hi, by rw [h]; decide⟩⟩
theorem pfX3_19 {M : Mk} (h : (mY M).cls = RX3) (hi : (mY M).name = "<init>") : putOK M 19 3 2 := Or.inl ⟨⟨by rw [h]; exact (lw_all_mem (List.mem_append_right _ (List.mem_of_getElem? (i := 312) (by decide +kernel))) (by decide +kernel)), by decide⟩, Or.inr ⟨by decide, hi, by rw [h]; decide⟩⟩
theorem pfX3_9 {M : Mk} (h : (mY M).cls = RX3) (hi : (mY M).name = "<init>") : putOK M 9 3 0 := Or.inl ⟨⟨by rw [h]; exact (lw_all_mem (List.mem_append_right _ (List.mem_of_getElem? (i := 310) (by decide +kernel))) (by decide +kernel)), by decide⟩, Or.inr ⟨by decide, hi, by rw [h]; decide⟩⟩
theorem pfX4_15 {M : Mk} (h : (mY M).cls = RX4) (hi : (mY M).name = "<init>") : putOK M 15 4 1 := Or.inl ⟨⟨by rw [h]; exact (lw_all_mem (List.mem_append_right _ (List.mem_of_getElem? (i := 267) (by decide +kernel))) (by decide +kernel)), by decide⟩, Or.inr ⟨by decide, hi, by rw [h]; decide⟩⟩
theorem pfX4_19 {M : Mk} (h : (mY M).cls = RX4) (hi : (mY M).name = "<init>") : putOK M 19 4 2 := Or.inl ⟨⟨by rw [h]; exact (lw_all_mem (List.mem_append_right _ (List.mem_of_getElem? (i := 268) (by decide +kernel))) (by decide +kernel)), by decide⟩, Or.inr ⟨by decide, hi, by rw [h]; decide⟩⟩
theorem pfX4_9 {M : Mk} (h : (mY M).cls = RX4) (hi : (mY M).name = "<init>") : putOK M 9 4 0 := Or.inl ⟨⟨by rw [h]; exact (lw_all_mem (List.mem_append_right _ (List.mem_of_getElem? (i := 266) (by decide +kernel))) (by decide +kernel)), by decide⟩, Or.inr ⟨by decide, hi, by rw [h]; decide⟩⟩
theorem pfX5_15 {M : Mk} (h : (mY M).cls = RX5) (hi : (mY M).name = "<init>") : putOK M 15 5 1 := Or.inl ⟨⟨by rw [h]; exact (lw_all_mem (List.mem_append_right _ (List.mem_of_getElem? (i := 40) (by decide +kernel))) (by decide +kernel)), by decide⟩, Or.inr ⟨by decide, hi, by rw [h]; decide⟩⟩
theorem pfX5_18 {M : Mk} (h : (mY M).cls = RX5) (hi : (mY M).name = "<init>") : putOK M 18 5 2 := Or.inl ⟨⟨by rw [h]; exact (lw_all_mem (List.mem_append_right _ (List.mem_of_getElem? (i := 41) (by decide +kernel))) (by decide +kernel)), by decide⟩, Or.inr ⟨by decide, hi, by rw [h]; decide⟩⟩
theorem pfX5_9 {M : Mk} (h : (mY M).cls = RX5) (hi : (mY M).name = "<init>") : putOK M 9 5 0 := Or.inl ⟨⟨by rw [h]; exact (lw_all_mem (List.mem_append_right _ (List.mem_of_getElem? (i := 39) (by decide +kernel))) (by decide +kernel)), by decide⟩, Or.inr ⟨by decide, hi, by rw [h]; decide⟩⟩
theorem pfX6_11 {M : Mk} (h : (mY M).cls = RX6) (hi : (mY M).name = "<init>") : putOK M 11 6 0 := Or.inl ⟨⟨by rw [h]; exact (lw_all_mem (List.mem_append_right _ (List.mem_of_getElem? (i := 134) (by decide +kernel))) (by decide +kernel)), by decide⟩, Or.inr ⟨by decide, hi, by rw [h]; decide⟩⟩
theorem pfX7_15 {M : Mk} (h : (mY M).cls = RX7) (hi : (mY M).name = "<init>") : putOK M 15 7 1 := Or.inl ⟨⟨by rw [h]; exact (lw_all_mem (List.mem_append_right _ (List.mem_of_getElem? (i := 70) (by decide +kernel))) (by decide +kernel)), by decide⟩, Or.inr ⟨by decide, hi, by rw [h]; decide⟩⟩
theorem pfX7_19 {M : Mk} (h : (mY M).cls = RX7) (hi : (mY M).name = "<init>") : putOK M 19 7 2 := Or.inl ⟨⟨by rw [h]; exact (lw_all_mem (List.mem_append_right _ (List.mem_of_getElem? (i := 71) (by decide +kernel))) (by decide +kernel)), by decide⟩, Or.inr ⟨by decide, hi, by rw [h]; decide⟩⟩
theorem pfX7_22 {M : Mk} (h : (mY M).cls = RX7) (hi : (mY M).name = "<init>") : putOK M 22 7 3 := Or.inl ⟨⟨by rw [h]; exact (lw_all_mem (List.mem_append_right _ (List.mem_of_getElem? (i := 72) (by decide +kernel))) (by decide +kernel)), by decide⟩, Or.inr ⟨by decide, hi, by rw [h]; decide⟩⟩
theorem pfX7_25 {M : Mk} (h : (mY M).cls = RX7) (hi : (mY M).name = "<init>") : putOK M 25 7 4 := Or.inl ⟨⟨by rw [h]; exact (lw_all_mem (List.mem_append_right _ (List.mem_of_getElem? (i := 73) (by decide +kernel))) (by decide +kernel)), by decide⟩, Or.inr ⟨by decide, hi, by rw [h]; decide⟩⟩
theorem pfX7_9 {M : Mk} (h : (mY M).cls = RX7) (hi : (mY M).name = "<init>") : putOK M 9 7 0 := Or.inl ⟨⟨by rw [h]; exact (lw_all_mem (List.mem_append_right _ (List.mem_of_getElem? (i := 69) (by decide +kernel))) (by decide +kernel)), by decide⟩, Or.inr ⟨by decide, hi, by rw [h]; decide⟩⟩
theorem pfX8_15 {M : Mk} (h : (mY M).cls = RX8) (hi : (mY M).name = "<init>") : putOK M 15 8 1 := Or.inl ⟨⟨by rw [h]; exact (lw_all_mem (List.mem_append_right _ (List.mem_of_getElem? (i := 248) (by decide +kernel))) (by decide +kernel)), by decide⟩, Or.inr ⟨by decide, hi, by rw [h]; decide⟩⟩
theorem pfX8_19 {M : Mk} (h : (mY M).cls = RX8) (hi : (mY M).name = "<init>") : putOK M 19 8 2 := Or.inl ⟨⟨by rw [h]; exact (lw_all_mem (List.mem_append_right _ (List.mem_of_getElem? (i := 249) (by decide +kernel))) (by decide +kernel)), by decide⟩, Or.inr ⟨by decide, hi, by rw [h]; decide⟩⟩
theorem pfX8_22 {M : Mk} (h : (mY M).cls = RX8) (hi : (mY M).name = "<init>") : putOK M 22 8 3 := Or.inl ⟨⟨by rw [h]; exact (lw_all_mem (List.mem_append_right _ (List.mem_of_getElem? (i := 250) (by decide +kernel))) (by decide +kernel)), by decide⟩, Or.inr ⟨by decide, hi, by rw [h]; decide⟩⟩
theorem pfX8_9 {M : Mk} (h : (mY M).cls = RX8) (hi : (mY M).name = "<init>") : putOK M 9 8 0 := Or.inl ⟨⟨by rw [h]; exact (lw_all_mem (List.mem_append_right _ (List.mem_of_getElem? (i := 247) (by decide +kernel))) (by decide +kernel)), by decide⟩, Or.inr ⟨by decide, hi, by rw [h]; decide⟩⟩
theorem pfX9_15 {M : Mk} (h : (mY M).cls = RX9) (hi : (mY M).name = "<init>") : putOK M 15 9 1 := Or.inl ⟨⟨by rw [h]; exact (lw_all_mem (List.mem_append_right _ (List.mem_of_getElem? (i := 96) (by decide +kernel))) (by decide +kernel)), by decide⟩, Or.inr ⟨by decide, hi, by rw [h]; decide⟩⟩
theorem pfX9_9 {M : Mk} (h : (mY M).cls = RX9) (hi : (mY M).name = "<init>") : putOK M 9 9 0 := Or.inl ⟨⟨by rw [h]; exact (lw_all_mem (List.mem_append_right _ (List.mem_of_getElem? (i := 94) (by decide +kernel))) (by decide +kernel)), by decide⟩, Or.inr ⟨by decide, hi, by rw [h]; decide⟩⟩
set_option maxRecDepth 100000 in
theorem i_1 {C : Cx} (Rb : Nat → Nat → Option Nat) (L : List (Nat × Nat × Nat)) (s : Sg) : mm C M_X5_init 1 3 648 2 5 [.ref 1] (hcb Rb L s) (fun v h => v = none ∧ h = hcb Rb ((1, 2, 4) :: (1, 1, 3) :: (1, 0, 2) :: L) s) XF := by
  refine mm_of rfl rfl (Nat.le_of_ble_eq_true rfl) ?_
  show ww C M_X5_init 1 3 648 5 _ XF 2 0 0 0 [(0, .ref 1)] [] (hcb Rb L s)
  refine w_aload_n 0 dX5_init_0 rfl rfl ?_
  refine c_obj dX5_init_1 (obX5_3 rfl) (Nat.le_of_ble_eq_true rfl) (Nat.le_of_ble_eq_true rfl) ?_
  refine w_aload_n 0 dX5_init_4 rfl rfl ?_
  refine x_sipush dX5_init_5 (by decide) ?_
  refine c_newarr (nx' := 3) (k' := 1) (n' := 486) .int 486 rfl (Nat.le_of_ble_eq_true rfl) dX5_init_8 rfl rfl (Or.inl rfl) na_int (Nat.le_of_ble_eq_true rfl) (Nat.le_of_ble_eq_true rfl) rfl rfl rfl ?_
  refine c_putR 5 0 dX5_init_10 (pfX5_9 rfl rfl) rfl rfl (Nat.le_of_ble_eq_true rfl) ?_
  refine w_aload_n 0 dX5_init_13 rfl rfl ?_
  refine x_bipush dX5_init_14 (by decide) ?_
  refine c_newarr (nx' := 4) (k' := 2) (n' := 567) .int 81 rfl (Nat.le_of_ble_eq_true rfl) dX5_init_16 rfl rfl (Or.inl rfl) na_int (Nat.le_of_ble_eq_true rfl) (Nat.le_of_ble_eq_true rfl) rfl rfl rfl ?_
  refine c_putR 5 1 dX5_init_18 (pfX5_15 rfl rfl) rfl rfl (Nat.le_of_ble_eq_true rfl) ?_
  refine w_aload_n 0 dX5_init_21 rfl rfl ?_
  refine x_bipush dX5_init_22 (by decide) ?_
  refine c_newarr (nx' := 5) (k' := 3) (n' := 648) .int 81 rfl (Nat.le_of_ble_eq_true rfl) dX5_init_24 rfl rfl (Or.inl rfl) na_int (Nat.le_of_ble_eq_true rfl) (Nat.le_of_ble_eq_true rfl) rfl rfl rfl ?_
  refine c_putR 5 2 dX5_init_26 (pfX5_18 rfl rfl) rfl rfl (Nat.le_of_ble_eq_true rfl) ?_
  exact w_return rfl dX5_init_29 rfl (Nat.le_of_ble_eq_true rfl) (Nat.le_of_ble_eq_true rfl) ⟨rfl, rfl⟩
set_option maxRecDepth 100000 in
theorem i_5 {C : Cx} (Rb : Nat → Nat → Option Nat) (L : List (Nat × Nat × Nat)) (s : Sg) : mm C M_X7_init 1 4 324 6 10 [.ref 5, .ref 1] (hcb Rb L s) (fun v h => v = none ∧ h = hcb Rb ((5, 4, 9) :: (5, 3, 8) :: (5, 2, 7) :: (5, 1, 6) :: (5, 0, 1) :: L) s) XF := by
  refine mm_of rfl rfl (Nat.le_of_ble_eq_true rfl) ?_
  show ww C M_X7_init 1 4 324 10 _ XF 6 0 0 0 [(0, .ref 5), (1, .ref 1)] [] (hcb Rb L s)
  refine w_aload_n 0 dX7_init_0 rfl rfl ?_
  refine c_obj dX7_init_1 (obX7_3 rfl) (Nat.le_of_ble_eq_true rfl) (Nat.le_of_ble_eq_true rfl) ?_
  refine w_aload_n 0 dX7_init_4 rfl rfl ?_
  refine w_aload_n 1 dX7_init_5 rfl rfl ?_
  refine c_putR 7 0 dX7_init_6 (pfX7_9 rfl rfl) rfl rfl (Nat.le_of_ble_eq_true rfl) ?_
  refine w_aload_n 0 dX7_init_9 rfl rfl ?_
  refine x_bipush dX7_init_10 (by decide) ?_
  refine c_newarr (nx' := 7) (k' := 1) (n' := 81) .int 81 rfl (Nat.le_of_ble_eq_true rfl) dX7_init_12 rfl rfl (Or.inl rfl) na_int (Nat.le_of_ble_eq_true rfl) (Nat.le_of_ble_eq_true rfl) rfl rfl rfl ?_
  refine c_putR 7 1 dX7_init_14 (pfX7_15 rfl rfl) rfl rfl (Nat.le_of_ble_eq_true rfl) ?_
  refine w_aload_n 0 dX7_init_17 rfl rfl ?_
  refine x_bipush dX7_init_18 (by decide) ?_
  refine c_newarr (nx' := 8) (k' := 2) (n' := 162) .int 81 rfl (Nat.le_of_ble_eq_true rfl) dX7_init_20 rfl rfl (Or.inl rfl) na_int (Nat.le_of_ble_eq_true rfl) (Nat.le_of_ble_eq_true rfl) rfl rfl rfl ?_
  refine c_putR 7 2 dX7_init_22 (pfX7_19 rfl rfl) rfl rfl (Nat.le_of_ble_eq_true rfl) ?_
  refine w_aload_n 0 dX7_init_25 rfl rfl ?_
  refine x_bipush dX7_init_26 (by decide) ?_
  refine c_newarr (nx' := 9) (k' := 3) (n' := 243) .int 81 rfl (Nat.le_of_ble_eq_true rfl) dX7_init_28 rfl rfl (Or.inl rfl) na_int (Nat.le_of_ble_eq_true rfl) (Nat.le_of_ble_eq_true rfl) rfl rfl rfl ?_
  refine c_putR 7 3 dX7_init_30 (pfX7_22 rfl rfl) rfl rfl (Nat.le_of_ble_eq_true rfl) ?_
  refine w_aload_n 0 dX7_init_33 rfl rfl ?_
  refine x_bipush dX7_init_34 (by decide) ?_
  refine c_newarr (nx' := 10) (k' := 4) (n' := 324) .int 81 rfl (Nat.le_of_ble_eq_true rfl) dX7_init_36 rfl rfl (Or.inl rfl) na_int (Nat.le_of_ble_eq_true rfl) (Nat.le_of_ble_eq_true rfl) rfl rfl rfl ?_
  refine c_putR 7 4 dX7_init_38 (pfX7_25 rfl rfl) rfl rfl (Nat.le_of_ble_eq_true rfl) ?_
  exact w_return rfl dX7_init_41 rfl (Nat.le_of_ble_eq_true rfl) (Nat.le_of_ble_eq_true rfl) ⟨rfl, rfl⟩
set_option maxRecDepth 100000 in
theorem i_10 {C : Cx} (Rb : Nat → Nat → Option Nat) (L : List (Nat × Nat × Nat)) (s : Sg) : mm C M_X9_init 1 2 281 11 13 [.ref 10] (hcb Rb L s) (fun v h => v = none ∧ h = hcb Rb ((10, 1, 12) :: (10, 0, 11) :: L) s) XF := by
  refine mm_of rfl rfl (Nat.le_of_ble_eq_true rfl) ?_
  show ww C M_X9_init 1 2 281 13 _ XF 11 0 0 0 [(0, .ref 10)] [] (hcb Rb L s)
  refine w_aload_n 0 dX9_init_0 rfl rfl ?_
  refine c_obj dX9_init_1 (obX9_3 rfl) (Nat.le_of_ble_eq_true rfl) (Nat.le_of_ble_eq_true rfl) ?_
  refine w_aload_n 0 dX9_init_4 rfl rfl ?_
  refine x_bipush dX9_init_5 (by decide) ?_
  refine c_newarr (nx' := 12) (k' := 1) (n' := 81) .int 81 rfl (Nat.le_of_ble_eq_true rfl) dX9_init_7 rfl rfl (Or.inl rfl) na_int (Nat.le_of_ble_eq_true rfl) (Nat.le_of_ble_eq_true rfl) rfl rfl rfl ?_
  refine c_putR 9 0 dX9_init_9 (pfX9_9 rfl rfl) rfl rfl (Nat.le_of_ble_eq_true rfl) ?_
  refine w_aload_n 0 dX9_init_12 rfl rfl ?_
  refine x_sipush dX9_init_13 (by decide) ?_
  refine c_newarr (nx' := 13) (k' := 2) (n' := 281) .int 200 rfl (Nat.le_of_ble_eq_true rfl) dX9_init_16 rfl rfl (Or.inl rfl) na_int (Nat.le_of_ble_eq_true rfl) (Nat.le_of_ble_eq_true rfl) rfl rfl rfl ?_
  refine c_putR 9 1 dX9_init_18 (pfX9_15 rfl rfl) rfl rfl (Nat.le_of_ble_eq_true rfl) ?_
  exact w_return rfl dX9_init_21 rfl (Nat.le_of_ble_eq_true rfl) (Nat.le_of_ble_eq_true rfl) ⟨rfl, rfl⟩
set_option maxRecDepth 100000 in
theorem i_13 {C : Cx} (Rb : Nat → Nat → Option Nat) (L : List (Nat × Nat × Nat)) (s : Sg) : mm C M_X9_init 1 2 281 14 16 [.ref 13] (hcb Rb L s) (fun v h => v = none ∧ h = hcb Rb ((13, 1, 15) :: (13, 0, 14) :: L) s) XF := by
  refine mm_of rfl rfl (Nat.le_of_ble_eq_true rfl) ?_
  show ww C M_X9_init 1 2 281 16 _ XF 14 0 0 0 [(0, .ref 13)] [] (hcb Rb L s)
  refine w_aload_n 0 dX9_init_0 rfl rfl ?_
  refine c_obj dX9_init_1 (obX9_3 rfl) (Nat.le_of_ble_eq_true rfl) (Nat.le_of_ble_eq_true rfl) ?_
  refine w_aload_n 0 dX9_init_4 rfl rfl ?_
  refine x_bipush dX9_init_5 (by decide) ?_
  refine c_newarr (nx' := 15) (k' := 1) (n' := 81) .int 81 rfl (Nat.le_of_ble_eq_true rfl) dX9_init_7 rfl rfl (Or.inl rfl) na_int (Nat.le_of_ble_eq_true rfl) (Nat.le_of_ble_eq_true rfl) rfl rfl rfl ?_
  refine c_putR 9 0 dX9_init_9 (pfX9_9 rfl rfl) rfl rfl (Nat.le_of_ble_eq_true rfl) ?_
  refine w_aload_n 0 dX9_init_12 rfl rfl ?_
  refine x_sipush dX9_init_13 (by decide) ?_
  refine c_newarr (nx' := 16) (k' := 2) (n' := 281) .int 200 rfl (Nat.le_of_ble_eq_true rfl) dX9_init_16 rfl rfl (Or.inl rfl) na_int (Nat.le_of_ble_eq_true rfl) (Nat.le_of_ble_eq_true rfl) rfl rfl rfl ?_
  refine c_putR 9 1 dX9_init_18 (pfX9_15 rfl rfl) rfl rfl (Nat.le_of_ble_eq_true rfl) ?_
  exact w_return rfl dX9_init_21 rfl (Nat.le_of_ble_eq_true rfl) (Nat.le_of_ble_eq_true rfl) ⟨rfl, rfl⟩
set_option maxRecDepth 100000 in
theorem i_18 {C : Cx} (Rb : Nat → Nat → Option Nat) (L : List (Nat × Nat × Nat)) (s : Sg) : mm C M_X9_init 1 2 281 19 21 [.ref 18] (hcb Rb L s) (fun v h => v = none ∧ h = hcb Rb ((18, 1, 20) :: (18, 0, 19) :: L) s) XF := by
  refine mm_of rfl rfl (Nat.le_of_ble_eq_true rfl) ?_
  show ww C M_X9_init 1 2 281 21 _ XF 19 0 0 0 [(0, .ref 18)] [] (hcb Rb L s)
  refine w_aload_n 0 dX9_init_0 rfl rfl ?_
  refine c_obj dX9_init_1 (obX9_3 rfl) (Nat.le_of_ble_eq_true rfl) (Nat.le_of_ble_eq_true rfl) ?_
  refine w_aload_n 0 dX9_init_4 rfl rfl ?_
  refine x_bipush dX9_init_5 (by decide) ?_
  refine c_newarr (nx' := 20) (k' := 1) (n' := 81) .int 81 rfl (Nat.le_of_ble_eq_true rfl) dX9_init_7 rfl rfl (Or.inl rfl) na_int (Nat.le_of_ble_eq_true rfl) (Nat.le_of_ble_eq_true rfl) rfl rfl rfl ?_
  refine c_putR 9 0 dX9_init_9 (pfX9_9 rfl rfl) rfl rfl (Nat.le_of_ble_eq_true rfl) ?_
  refine w_aload_n 0 dX9_init_12 rfl rfl ?_
  refine x_sipush dX9_init_13 (by decide) ?_
  refine c_newarr (nx' := 21) (k' := 2) (n' := 281) .int 200 rfl (Nat.le_of_ble_eq_true rfl) dX9_init_16 rfl rfl (Or.inl rfl) na_int (Nat.le_of_ble_eq_true rfl) (Nat.le_of_ble_eq_true rfl) rfl rfl rfl ?_
  refine c_putR 9 1 dX9_init_18 (pfX9_15 rfl rfl) rfl rfl (Nat.le_of_ble_eq_true rfl) ?_
  exact w_return rfl dX9_init_21 rfl (Nat.le_of_ble_eq_true rfl) (Nat.le_of_ble_eq_true rfl) ⟨rfl, rfl⟩
set_option maxRecDepth 100000 in
theorem i_21 {C : Cx} (Rb : Nat → Nat → Option Nat) (L : List (Nat × Nat × Nat)) (s : Sg) : mm C M_X9_init 1 2 281 22 24 [.ref 21] (hcb Rb L s) (fun v h => v = none ∧ h = hcb Rb ((21, 1, 23) :: (21, 0, 22) :: L) s) XF := by
  refine mm_of rfl rfl (Nat.le_of_ble_eq_true rfl) ?_
  show ww C M_X9_init 1 2 281 24 _ XF 22 0 0 0 [(0, .ref 21)] [] (hcb Rb L s)
  refine w_aload_n 0 dX9_init_0 rfl rfl ?_
  refine c_obj dX9_init_1 (obX9_3 rfl) (Nat.le_of_ble_eq_true rfl) (Nat.le_of_ble_eq_true rfl) ?_
  refine w_aload_n 0 dX9_init_4 rfl rfl ?_
  refine x_bipush dX9_init_5 (by decide) ?_
  refine c_newarr (nx' := 23) (k' := 1) (n' := 81) .int 81 rfl (Nat.le_of_ble_eq_true rfl) dX9_init_7 rfl rfl (Or.inl rfl) na_int (Nat.le_of_ble_eq_true rfl) (Nat.le_of_ble_eq_true rfl) rfl rfl rfl ?_
  refine c_putR 9 0 dX9_init_9 (pfX9_9 rfl rfl) rfl rfl (Nat.le_of_ble_eq_true rfl) ?_
  refine w_aload_n 0 dX9_init_12 rfl rfl ?_
  refine x_sipush dX9_init_13 (by decide) ?_
  refine c_newarr (nx' := 24) (k' := 2) (n' := 281) .int 200 rfl (Nat.le_of_ble_eq_true rfl) dX9_init_16 rfl rfl (Or.inl rfl) na_int (Nat.le_of_ble_eq_true rfl) (Nat.le_of_ble_eq_true rfl) rfl rfl rfl ?_
  refine c_putR 9 1 dX9_init_18 (pfX9_15 rfl rfl) rfl rfl (Nat.le_of_ble_eq_true rfl) ?_
  exact w_return rfl dX9_init_21 rfl (Nat.le_of_ble_eq_true rfl) (Nat.le_of_ble_eq_true rfl) ⟨rfl, rfl⟩
set_option maxRecDepth 100000 in
theorem i_24 {C : Cx} (Rb : Nat → Nat → Option Nat) (L : List (Nat × Nat × Nat)) (s : Sg) : mm C M_X9_init 1 2 281 25 27 [.ref 24] (hcb Rb L s) (fun v h => v = none ∧ h = hcb Rb ((24, 1, 26) :: (24, 0, 25) :: L) s) XF := by
  refine mm_of rfl rfl (Nat.le_of_ble_eq_true rfl) ?_
  show ww C M_X9_init 1 2 281 27 _ XF 25 0 0 0 [(0, .ref 24)] [] (hcb Rb L s)
  refine w_aload_n 0 dX9_init_0 rfl rfl ?_
  refine c_obj dX9_init_1 (obX9_3 rfl) (Nat.le_of_ble_eq_true rfl) (Nat.le_of_ble_eq_true rfl) ?_
  refine w_aload_n 0 dX9_init_4 rfl rfl ?_
  refine x_bipush dX9_init_5 (by decide) ?_
  refine c_newarr (nx' := 26) (k' := 1) (n' := 81) .int 81 rfl (Nat.le_of_ble_eq_true rfl) dX9_init_7 rfl rfl (Or.inl rfl) na_int (Nat.le_of_ble_eq_true rfl) (Nat.le_of_ble_eq_true rfl) rfl rfl rfl ?_
  refine c_putR 9 0 dX9_init_9 (pfX9_9 rfl rfl) rfl rfl (Nat.le_of_ble_eq_true rfl) ?_
  refine w_aload_n 0 dX9_init_12 rfl rfl ?_
  refine x_sipush dX9_init_13 (by decide) ?_
  refine c_newarr (nx' := 27) (k' := 2) (n' := 281) .int 200 rfl (Nat.le_of_ble_eq_true rfl) dX9_init_16 rfl rfl (Or.inl rfl) na_int (Nat.le_of_ble_eq_true rfl) (Nat.le_of_ble_eq_true rfl) rfl rfl rfl ?_
  refine c_putR 9 1 dX9_init_18 (pfX9_15 rfl rfl) rfl rfl (Nat.le_of_ble_eq_true rfl) ?_
  exact w_return rfl dX9_init_21 rfl (Nat.le_of_ble_eq_true rfl) (Nat.le_of_ble_eq_true rfl) ⟨rfl, rfl⟩
set_option maxRecDepth 100000 in
theorem i_27 {C : Cx} (Rb : Nat → Nat → Option Nat) (L : List (Nat × Nat × Nat)) (s : Sg) : mm C M_X9_init 1 2 281 28 30 [.ref 27] (hcb Rb L s) (fun v h => v = none ∧ h = hcb Rb ((27, 1, 29) :: (27, 0, 28) :: L) s) XF := by
  refine mm_of rfl rfl (Nat.le_of_ble_eq_true rfl) ?_
  show ww C M_X9_init 1 2 281 30 _ XF 28 0 0 0 [(0, .ref 27)] [] (hcb Rb L s)
  refine w_aload_n 0 dX9_init_0 rfl rfl ?_
  refine c_obj dX9_init_1 (obX9_3 rfl) (Nat.le_of_ble_eq_true rfl) (Nat.le_of_ble_eq_true rfl) ?_
  refine w_aload_n 0 dX9_init_4 rfl rfl ?_
  refine x_bipush dX9_init_5 (by decide) ?_
  refine c_newarr (nx' := 29) (k' := 1) (n' := 81) .int 81 rfl (Nat.le_of_ble_eq_true rfl) dX9_init_7 rfl rfl (Or.inl rfl) na_int (Nat.le_of_ble_eq_true rfl) (Nat.le_of_ble_eq_true rfl) rfl rfl rfl ?_
  refine c_putR 9 0 dX9_init_9 (pfX9_9 rfl rfl) rfl rfl (Nat.le_of_ble_eq_true rfl) ?_
  refine w_aload_n 0 dX9_init_12 rfl rfl ?_
  refine x_sipush dX9_init_13 (by decide) ?_
  refine c_newarr (nx' := 30) (k' := 2) (n' := 281) .int 200 rfl (Nat.le_of_ble_eq_true rfl) dX9_init_16 rfl rfl (Or.inl rfl) na_int (Nat.le_of_ble_eq_true rfl) (Nat.le_of_ble_eq_true rfl) rfl rfl rfl ?_
  refine c_putR 9 1 dX9_init_18 (pfX9_15 rfl rfl) rfl rfl (Nat.le_of_ble_eq_true rfl) ?_
  exact w_return rfl dX9_init_21 rfl (Nat.le_of_ble_eq_true rfl) (Nat.le_of_ble_eq_true rfl) ⟨rfl, rfl⟩
set_option maxRecDepth 100000 in
theorem i_30 {C : Cx} (Rb : Nat → Nat → Option Nat) (L : List (Nat × Nat × Nat)) (s : Sg) : mm C M_X9_init 1 2 281 31 33 [.ref 30] (hcb Rb L s) (fun v h => v = none ∧ h = hcb Rb ((30, 1, 32) :: (30, 0, 31) :: L) s) XF := by
  refine mm_of rfl rfl (Nat.le_of_ble_eq_true rfl) ?_
  show ww C M_X9_init 1 2 281 33 _ XF 31 0 0 0 [(0, .ref 30)] [] (hcb Rb L s)
  refine w_aload_n 0 dX9_init_0 rfl rfl ?_
  refine c_obj dX9_init_1 (obX9_3 rfl) (Nat.le_of_ble_eq_true rfl) (Nat.le_of_ble_eq_true rfl) ?_
  refine w_aload_n 0 dX9_init_4 rfl rfl ?_
  refine x_bipush dX9_init_5 (by decide) ?_
  refine c_newarr (nx' := 32) (k' := 1) (n' := 81) .int 81 rfl (Nat.le_of_ble_eq_true rfl) dX9_init_7 rfl rfl (Or.inl rfl) na_int (Nat.le_of_ble_eq_true rfl) (Nat.le_of_ble_eq_true rfl) rfl rfl rfl ?_
  refine c_putR 9 0 dX9_init_9 (pfX9_9 rfl rfl) rfl rfl (Nat.le_of_ble_eq_true rfl) ?_
  refine w_aload_n 0 dX9_init_12 rfl rfl ?_
  refine x_sipush dX9_init_13 (by decide) ?_
  refine c_newarr (nx' := 33) (k' := 2) (n' := 281) .int 200 rfl (Nat.le_of_ble_eq_true rfl) dX9_init_16 rfl rfl (Or.inl rfl) na_int (Nat.le_of_ble_eq_true rfl) (Nat.le_of_ble_eq_true rfl) rfl rfl rfl ?_
  refine c_putR 9 1 dX9_init_18 (pfX9_15 rfl rfl) rfl rfl (Nat.le_of_ble_eq_true rfl) ?_
  exact w_return rfl dX9_init_21 rfl (Nat.le_of_ble_eq_true rfl) (Nat.le_of_ble_eq_true rfl) ⟨rfl, rfl⟩
set_option maxRecDepth 100000 in
theorem i_33 {C : Cx} (Rb : Nat → Nat → Option Nat) (L : List (Nat × Nat × Nat)) (s : Sg) : mm C M_X9_init 1 2 281 34 36 [.ref 33] (hcb Rb L s) (fun v h => v = none ∧ h = hcb Rb ((33, 1, 35) :: (33, 0, 34) :: L) s) XF := by
  refine mm_of rfl rfl (Nat.le_of_ble_eq_true rfl) ?_
  show ww C M_X9_init 1 2 281 36 _ XF 34 0 0 0 [(0, .ref 33)] [] (hcb Rb L s)
  refine w_aload_n 0 dX9_init_0 rfl rfl ?_
  refine c_obj dX9_init_1 (obX9_3 rfl) (Nat.le_of_ble_eq_true rfl) (Nat.le_of_ble_eq_true rfl) ?_
  refine w_aload_n 0 dX9_init_4 rfl rfl ?_
  refine x_bipush dX9_init_5 (by decide) ?_
  refine c_newarr (nx' := 35) (k' := 1) (n' := 81) .int 81 rfl (Nat.le_of_ble_eq_true rfl) dX9_init_7 rfl rfl (Or.inl rfl) na_int (Nat.le_of_ble_eq_true rfl) (Nat.le_of_ble_eq_true rfl) rfl rfl rfl ?_
  refine c_putR 9 0 dX9_init_9 (pfX9_9 rfl rfl) rfl rfl (Nat.le_of_ble_eq_true rfl) ?_
  refine w_aload_n 0 dX9_init_12 rfl rfl ?_
  refine x_sipush dX9_init_13 (by decide) ?_
  refine c_newarr (nx' := 36) (k' := 2) (n' := 281) .int 200 rfl (Nat.le_of_ble_eq_true rfl) dX9_init_16 rfl rfl (Or.inl rfl) na_int (Nat.le_of_ble_eq_true rfl) (Nat.le_of_ble_eq_true rfl) rfl rfl rfl ?_
  refine c_putR 9 1 dX9_init_18 (pfX9_15 rfl rfl) rfl rfl (Nat.le_of_ble_eq_true rfl) ?_
  exact w_return rfl dX9_init_21 rfl (Nat.le_of_ble_eq_true rfl) (Nat.le_of_ble_eq_true rfl) ⟨rfl, rfl⟩
set_option maxRecDepth 100000 in
theorem i_36 {C : Cx} (Rb : Nat → Nat → Option Nat) (L : List (Nat × Nat × Nat)) (s : Sg) : mm C M_X9_init 1 2 281 37 39 [.ref 36] (hcb Rb L s) (fun v h => v = none ∧ h = hcb Rb ((36, 1, 38) :: (36, 0, 37) :: L) s) XF := by
  refine mm_of rfl rfl (Nat.le_of_ble_eq_true rfl) ?_
  show ww C M_X9_init 1 2 281 39 _ XF 37 0 0 0 [(0, .ref 36)] [] (hcb Rb L s)
  refine w_aload_n 0 dX9_init_0 rfl rfl ?_
  refine c_obj dX9_init_1 (obX9_3 rfl) (Nat.le_of_ble_eq_true rfl) (Nat.le_of_ble_eq_true rfl) ?_
  refine w_aload_n 0 dX9_init_4 rfl rfl ?_
  refine x_bipush dX9_init_5 (by decide) ?_
  refine c_newarr (nx' := 38) (k' := 1) (n' := 81) .int 81 rfl (Nat.le_of_ble_eq_true rfl) dX9_init_7 rfl rfl (Or.inl rfl) na_int (Nat.le_of_ble_eq_true rfl) (Nat.le_of_ble_eq_true rfl) rfl rfl rfl ?_
  refine c_putR 9 0 dX9_init_9 (pfX9_9 rfl rfl) rfl rfl (Nat.le_of_ble_eq_true rfl) ?_
  refine w_aload_n 0 dX9_init_12 rfl rfl ?_
  refine x_sipush dX9_init_13 (by decide) ?_
  refine c_newarr (nx' := 39) (k' := 2) (n' := 281) .int 200 rfl (Nat.le_of_ble_eq_true rfl) dX9_init_16 rfl rfl (Or.inl rfl) na_int (Nat.le_of_ble_eq_true rfl) (Nat.le_of_ble_eq_true rfl) rfl rfl rfl ?_
  refine c_putR 9 1 dX9_init_18 (pfX9_15 rfl rfl) rfl rfl (Nat.le_of_ble_eq_true rfl) ?_
  exact w_return rfl dX9_init_21 rfl (Nat.le_of_ble_eq_true rfl) (Nat.le_of_ble_eq_true rfl) ⟨rfl, rfl⟩
set_option maxRecDepth 100000 in
theorem i_39 {C : Cx} (Rb : Nat → Nat → Option Nat) (L : List (Nat × Nat × Nat)) (s : Sg) : mm C M_X9_init 1 2 281 40 42 [.ref 39] (hcb Rb L s) (fun v h => v = none ∧ h = hcb Rb ((39, 1, 41) :: (39, 0, 40) :: L) s) XF := by
  refine mm_of rfl rfl (Nat.le_of_ble_eq_true rfl) ?_
  show ww C M_X9_init 1 2 281 42 _ XF 40 0 0 0 [(0, .ref 39)] [] (hcb Rb L s)
  refine w_aload_n 0 dX9_init_0 rfl rfl ?_
  refine c_obj dX9_init_1 (obX9_3 rfl) (Nat.le_of_ble_eq_true rfl) (Nat.le_of_ble_eq_true rfl) ?_
  refine w_aload_n 0 dX9_init_4 rfl rfl ?_
  refine x_bipush dX9_init_5 (by decide) ?_
  refine c_newarr (nx' := 41) (k' := 1) (n' := 81) .int 81 rfl (Nat.le_of_ble_eq_true rfl) dX9_init_7 rfl rfl (Or.inl rfl) na_int (Nat.le_of_ble_eq_true rfl) (Nat.le_of_ble_eq_true rfl) rfl rfl rfl ?_
  refine c_putR 9 0 dX9_init_9 (pfX9_9 rfl rfl) rfl rfl (Nat.le_of_ble_eq_true rfl) ?_
  refine w_aload_n 0 dX9_init_12 rfl rfl ?_
  refine x_sipush dX9_init_13 (by decide) ?_
  refine c_newarr (nx' := 42) (k' := 2) (n' := 281) .int 200 rfl (Nat.le_of_ble_eq_true rfl) dX9_init_16 rfl rfl (Or.inl rfl) na_int (Nat.le_of_ble_eq_true rfl) (Nat.le_of_ble_eq_true rfl) rfl rfl rfl ?_
  refine c_putR 9 1 dX9_init_18 (pfX9_15 rfl rfl) rfl rfl (Nat.le_of_ble_eq_true rfl) ?_
  exact w_return rfl dX9_init_21 rfl (Nat.le_of_ble_eq_true rfl) (Nat.le_of_ble_eq_true rfl) ⟨rfl, rfl⟩
set_option maxRecDepth 100000 in
theorem i_16 {C : Cx} (Rb : Nat → Nat → Option Nat) (L : List (Nat × Nat × Nat)) (s : Sg) : mm C M_X6_init 2 25 2312 17 42 [.ref 16] (hcb Rb L s) (fun v h => v = none ∧ h = hcb Rb ((17, 7, 39) :: (39, 1, 41) :: (39, 0, 40) :: (17, 6, 36) :: (36, 1, 38) :: (36, 0, 37) :: (17, 5, 33) :: (33, 1, 35) :: (33, 0, 34) :: (17, 4, 30) :: (30, 1, 32) :: (30, 0, 31) :: (17, 3, 27) :: (27, 1, 29) :: (27, 0, 28) :: (17, 2, 24) :: (24, 1, 26) :: (24, 0, 25) :: (17, 1, 21) :: (21, 1, 23) :: (21, 0, 22) :: (17, 0, 18) :: (18, 1, 20) :: (18, 0, 19) :: (16, 0, 17) :: L) s) XF := by
  refine mm_of rfl rfl (Nat.le_of_ble_eq_true rfl) ?_
  show ww C M_X6_init 2 25 2312 42 _ XF 17 0 0 0 [(0, .ref 16)] [] (hcb Rb L s)
  refine w_aload_n 0 dX6_init_0 rfl rfl ?_
  refine c_obj dX6_init_1 (obX6_3 rfl) (Nat.le_of_ble_eq_true rfl) (Nat.le_of_ble_eq_true rfl) ?_
  refine w_aload_n 0 dX6_init_4 rfl rfl ?_
  refine x_bipush dX6_init_5 (by decide) ?_
  refine c_newq (nx' := 18) (k' := 1) (n' := 8) 8 rfl (Nat.le_of_ble_eq_true rfl) dX6_init_7 rfl (nqX6_9 rfl) (Nat.le_of_ble_eq_true rfl) (Nat.le_of_ble_eq_true rfl) rfl rfl rfl ?_
  refine c_putR 6 0 dX6_init_10 (pfX6_11 rfl rfl) rfl rfl (Nat.le_of_ble_eq_true rfl) ?_
  refine x_iconst dX6_init_13 ?_
  refine w_istore_n (lv' := [(1, vi 0), (0, .ref 16)]) dX6_init_14 rfl (Nat.le_of_ble_eq_true rfl) rfl ?_
  refine w_iload_n 0 dX6_init_15 rfl rfl ?_
  refine x_bipush dX6_init_16 (by decide) ?_
  refine c_ge_f (by unfold R; decide) dX6_init_18 rfl ?_
  refine w_aload_n 1 dX6_init_21 rfl rfl ?_
  refine c_getR 6 0 (b := 17) dX6_init_22 (fxX6_11 rfl) rfl rfl (Nat.le_of_ble_eq_true rfl) rfl ?_
  refine w_iload_n 0 dX6_init_25 rfl rfl ?_
  refine c_new (nx' := 19) (k' := 2) (n' := 15) 9 dX6_init_26 rfl (nwX6_9 rfl) (Nat.le_of_ble_eq_true rfl) (Nat.le_of_ble_eq_true rfl) rfl rfl rfl ?_
  refine w_dup dX6_init_29 rfl ?_
  refine c_init M_X9_init [] [.ref 18, vi 0, .ref 17] rfl (show 2 + 2 = 4 from rfl) (show 15 + 281 = 296 from rfl) dX6_init_30 (lkX6_17 _ rfl) (Nat.le_of_ble_eq_true rfl) (Nat.le_of_ble_eq_true rfl) (Nat.le_of_ble_eq_true rfl) (Nat.le_of_ble_eq_true rfl) (i_18 Rb ((16, 0, 17) :: L) s) ?_
  refine c_aast (N := 8) 0 rfl (Nat.le_of_ble_eq_true rfl) (Nat.le_of_ble_eq_true rfl) dX6_init_33 rfl (Nat.le_of_ble_eq_true rfl) rfl (Nat.le_of_ble_eq_true rfl) ?_
  refine x_iinc (lv' := [(1, vi 1), (0, .ref 16)]) 0 dX6_init_34 rfl (Nat.le_of_ble_eq_true rfl) rfl ?_
  refine w_goto dX6_init_37 rfl ?_
  refine w_iload_n 0 dX6_init_15 rfl rfl ?_
  refine x_bipush dX6_init_16 (by decide) ?_
  refine c_ge_f (by unfold R; decide) dX6_init_18 rfl ?_
  refine w_aload_n 1 dX6_init_21 rfl rfl ?_
  refine c_getR 6 0 (b := 17) dX6_init_22 (fxX6_11 rfl) rfl rfl (Nat.le_of_ble_eq_true rfl) rfl ?_
  refine w_iload_n 0 dX6_init_25 rfl rfl ?_
  refine c_new (nx' := 22) (k' := 5) (n' := 303) 9 dX6_init_26 rfl (nwX6_9 rfl) (Nat.le_of_ble_eq_true rfl) (Nat.le_of_ble_eq_true rfl) rfl rfl rfl ?_
  refine w_dup dX6_init_29 rfl ?_
  refine c_init M_X9_init [] [.ref 21, vi 1, .ref 17] rfl (show 5 + 2 = 7 from rfl) (show 303 + 281 = 584 from rfl) dX6_init_30 (lkX6_17 _ rfl) (Nat.le_of_ble_eq_true rfl) (Nat.le_of_ble_eq_true rfl) (Nat.le_of_ble_eq_true rfl) (Nat.le_of_ble_eq_true rfl) (i_21 Rb ((17, 0, 18) :: (18, 1, 20) :: (18, 0, 19) :: (16, 0, 17) :: L) s) ?_
  refine c_aast (N := 8) 1 rfl (Nat.le_of_ble_eq_true rfl) (Nat.le_of_ble_eq_true rfl) dX6_init_33 rfl (Nat.le_of_ble_eq_true rfl) rfl (Nat.le_of_ble_eq_true rfl) ?_
  refine x_iinc (lv' := [(1, vi 2), (0, .ref 16)]) 0 dX6_init_34 rfl (Nat.le_of_ble_eq_true rfl) rfl ?_
  refine w_goto dX6_init_37 rfl ?_
  refine w_iload_n 0 dX6_init_15 rfl rfl ?_
  refine x_bipush dX6_init_16 (by decide) ?_
  refine c_ge_f (by unfold R; decide) dX6_init_18 rfl ?_
  refine w_aload_n 1 dX6_init_21 rfl rfl ?_
  refine c_getR 6 0 (b := 17) dX6_init_22 (fxX6_11 rfl) rfl rfl (Nat.le_of_ble_eq_true rfl) rfl ?_
  refine w_iload_n 0 dX6_init_25 rfl rfl ?_
  refine c_new (nx' := 25) (k' := 8) (n' := 591) 9 dX6_init_26 rfl (nwX6_9 rfl) (Nat.le_of_ble_eq_true rfl) (Nat.le_of_ble_eq_true rfl) rfl rfl rfl ?_
  refine w_dup dX6_init_29 rfl ?_
  refine c_init M_X9_init [] [.ref 24, vi 2, .ref 17] rfl (show 8 + 2 = 10 from rfl) (show 591 + 281 = 872 from rfl) dX6_init_30 (lkX6_17 _ rfl) (Nat.le_of_ble_eq_true rfl) (Nat.le_of_ble_eq_true rfl) (Nat.le_of_ble_eq_true rfl) (Nat.le_of_ble_eq_true rfl) (i_24 Rb ((17, 1, 21) :: (21, 1, 23) :: (21, 0, 22) :: (17, 0, 18) :: (18, 1, 20) :: (18, 0, 19) :: (16, 0, 17) :: L) s) ?_
  refine c_aast (N := 8) 2 rfl (Nat.le_of_ble_eq_true rfl) (Nat.le_of_ble_eq_true rfl) dX6_init_33 rfl (Nat.le_of_ble_eq_true rfl) rfl (Nat.le_of_ble_eq_true rfl) ?_
  refine x_iinc (lv' := [(1, vi 3), (0, .ref 16)]) 0 dX6_init_34 rfl (Nat.le_of_ble_eq_true rfl) rfl ?_
  refine w_goto dX6_init_37 rfl ?_
  refine w_iload_n 0 dX6_init_15 rfl rfl ?_
  refine x_bipush dX6_init_16 (by decide) ?_
  refine c_ge_f (by unfold R; decide) dX6_init_18 rfl ?_
  refine w_aload_n 1 dX6_init_21 rfl rfl ?_
  refine c_getR 6 0 (b := 17) dX6_init_22 (fxX6_11 rfl) rfl rfl (Nat.le_of_ble_eq_true rfl) rfl ?_
  refine w_iload_n 0 dX6_init_25 rfl rfl ?_
  refine c_new (nx' := 28) (k' := 11) (n' := 879) 9 dX6_init_26 rfl (nwX6_9 rfl) (Nat.le_of_ble_eq_true rfl) (Nat.le_of_ble_eq_true rfl) rfl rfl rfl ?_
  refine w_dup dX6_init_29 rfl ?_
  refine c_init M_X9_init [] [.ref 27, vi 3, .ref 17] rfl (show 11 + 2 = 13 from rfl) (show 879 + 281 = 1160 from rfl) dX6_init_30 (lkX6_17 _ rfl) (Nat.le_of_ble_eq_true rfl) (Nat.le_of_ble_eq_true rfl) (Nat.le_of_ble_eq_true rfl) (Nat.le_of_ble_eq_true rfl) (i_27 Rb ((17, 2, 24) :: (24, 1, 26) :: (24, 0, 25) :: (17, 1, 21) :: (21, 1, 23) :: (21, 0, 22) :: (17, 0, 18) :: (18, 1, 20) :: (18, 0, 19) :: (16, 0, 17) :: L) s) ?_
  refine c_aast (N := 8) 3 rfl (Nat.le_of_ble_eq_true rfl) (Nat.le_of_ble_eq_true rfl) dX6_init_33 rfl (Nat.le_of_ble_eq_true rfl) rfl (Nat.le_of_ble_eq_true rfl) ?_
  refine x_iinc (lv' := [(1, vi 4), (0, .ref 16)]) 0 dX6_init_34 rfl (Nat.le_of_ble_eq_true rfl) rfl ?_
  refine w_goto dX6_init_37 rfl ?_
  refine w_iload_n 0 dX6_init_15 rfl rfl ?_
  refine x_bipush dX6_init_16 (by decide) ?_
  refine c_ge_f (by unfold R; decide) dX6_init_18 rfl ?_
  refine w_aload_n 1 dX6_init_21 rfl rfl ?_
  refine c_getR 6 0 (b := 17) dX6_init_22 (fxX6_11 rfl) rfl rfl (Nat.le_of_ble_eq_true rfl) rfl ?_
  refine w_iload_n 0 dX6_init_25 rfl rfl ?_
  refine c_new (nx' := 31) (k' := 14) (n' := 1167) 9 dX6_init_26 rfl (nwX6_9 rfl) (Nat.le_of_ble_eq_true rfl) (Nat.le_of_ble_eq_true rfl) rfl rfl rfl ?_
  refine w_dup dX6_init_29 rfl ?_
  refine c_init M_X9_init [] [.ref 30, vi 4, .ref 17] rfl (show 14 + 2 = 16 from rfl) (show 1167 + 281 = 1448 from rfl) dX6_init_30 (lkX6_17 _ rfl) (Nat.le_of_ble_eq_true rfl) (Nat.le_of_ble_eq_true rfl) (Nat.le_of_ble_eq_true rfl) (Nat.le_of_ble_eq_true rfl) (i_30 Rb ((17, 3, 27) :: (27, 1, 29) :: (27, 0, 28) :: (17, 2, 24) :: (24, 1, 26) :: (24, 0, 25) :: (17, 1, 21) :: (21, 1, 23) :: (21, 0, 22) :: (17, 0, 18) :: (18, 1, 20) :: (18, 0, 19) :: (16, 0, 17) :: L) s) ?_
  refine c_aast (N := 8) 4 rfl (Nat.le_of_ble_eq_true rfl) (Nat.le_of_ble_eq_true rfl) dX6_init_33 rfl (Nat.le_of_ble_eq_true rfl) rfl (Nat.le_of_ble_eq_true rfl) ?_
  refine x_iinc (lv' := [(1, vi 5), (0, .ref 16)]) 0 dX6_init_34 rfl (Nat.le_of_ble_eq_true rfl) rfl ?_
  refine w_goto dX6_init_37 rfl ?_
  refine w_iload_n 0 dX6_init_15 rfl rfl ?_
  refine x_bipush dX6_init_16 (by decide) ?_
  refine c_ge_f (by unfold R; decide) dX6_init_18 rfl ?_
  refine w_aload_n 1 dX6_init_21 rfl rfl ?_
  refine c_getR 6 0 (b := 17) dX6_init_22 (fxX6_11 rfl) rfl rfl (Nat.le_of_ble_eq_true rfl) rfl ?_
  refine w_iload_n 0 dX6_init_25 rfl rfl ?_
  refine c_new (nx' := 34) (k' := 17) (n' := 1455) 9 dX6_init_26 rfl (nwX6_9 rfl) (Nat.le_of_ble_eq_true rfl) (Nat.le_of_ble_eq_true rfl) rfl rfl rfl ?_
  refine w_dup dX6_init_29 rfl ?_
  refine c_init M_X9_init [] [.ref 33, vi 5, .ref 17] rfl (show 17 + 2 = 19 from rfl) (show 1455 + 281 = 1736 from rfl) dX6_init_30 (lkX6_17 _ rfl) (Nat.le_of_ble_eq_true rfl) (Nat.le_of_ble_eq_true rfl) (Nat.le_of_ble_eq_true rfl) (Nat.le_of_ble_eq_true rfl) (i_33 Rb ((17, 4, 30) :: (30, 1, 32) :: (30, 0, 31) :: (17, 3, 27) :: (27, 1, 29) :: (27, 0, 28) :: (17, 2, 24) :: (24, 1, 26) :: (24, 0, 25) :: (17, 1, 21) :: (21, 1, 23) :: (21, 0, 22) :: (17, 0, 18) :: (18, 1, 20) :: (18, 0, 19) :: (16, 0, 17) :: L) s) ?_
  refine c_aast (N := 8) 5 rfl (Nat.le_of_ble_eq_true rfl) (Nat.le_of_ble_eq_true rfl) dX6_init_33 rfl (Nat.le_of_ble_eq_true rfl) rfl (Nat.le_of_ble_eq_true rfl) ?_
  refine x_iinc (lv' := [(1, vi 6), (0, .ref 16)]) 0 dX6_init_34 rfl (Nat.le_of_ble_eq_true rfl) rfl ?_
  refine w_goto dX6_init_37 rfl ?_
  refine w_iload_n 0 dX6_init_15 rfl rfl ?_
  refine x_bipush dX6_init_16 (by decide) ?_
  refine c_ge_f (by unfold R; decide) dX6_init_18 rfl ?_
  refine w_aload_n 1 dX6_init_21 rfl rfl ?_
  refine c_getR 6 0 (b := 17) dX6_init_22 (fxX6_11 rfl) rfl rfl (Nat.le_of_ble_eq_true rfl) rfl ?_
  refine w_iload_n 0 dX6_init_25 rfl rfl ?_
  refine c_new (nx' := 37) (k' := 20) (n' := 1743) 9 dX6_init_26 rfl (nwX6_9 rfl) (Nat.le_of_ble_eq_true rfl) (Nat.le_of_ble_eq_true rfl) rfl rfl rfl ?_
  refine w_dup dX6_init_29 rfl ?_
  refine c_init M_X9_init [] [.ref 36, vi 6, .ref 17] rfl (show 20 + 2 = 22 from rfl) (show 1743 + 281 = 2024 from rfl) dX6_init_30 (lkX6_17 _ rfl) (Nat.le_of_ble_eq_true rfl) (Nat.le_of_ble_eq_true rfl) (Nat.le_of_ble_eq_true rfl) (Nat.le_of_ble_eq_true rfl) (i_36 Rb ((17, 5, 33) :: (33, 1, 35) :: (33, 0, 34) :: (17, 4, 30) :: (30, 1, 32) :: (30, 0, 31) :: (17, 3, 27) :: (27, 1, 29) :: (27, 0, 28) :: (17, 2, 24) :: (24, 1, 26) :: (24, 0, 25) :: (17, 1, 21) :: (21, 1, 23) :: (21, 0, 22) :: (17, 0, 18) :: (18, 1, 20) :: (18, 0, 19) :: (16, 0, 17) :: L) s) ?_
  refine c_aast (N := 8) 6 rfl (Nat.le_of_ble_eq_true rfl) (Nat.le_of_ble_eq_true rfl) dX6_init_33 rfl (Nat.le_of_ble_eq_true rfl) rfl (Nat.le_of_ble_eq_true rfl) ?_
  refine x_iinc (lv' := [(1, vi 7), (0, .ref 16)]) 0 dX6_init_34 rfl (Nat.le_of_ble_eq_true rfl) rfl ?_
  refine w_goto dX6_init_37 rfl ?_
  refine w_iload_n 0 dX6_init_15 rfl rfl ?_
  refine x_bipush dX6_init_16 (by decide) ?_
  refine c_ge_f (by unfold R; decide) dX6_init_18 rfl ?_
  refine w_aload_n 1 dX6_init_21 rfl rfl ?_
  refine c_getR 6 0 (b := 17) dX6_init_22 (fxX6_11 rfl) rfl rfl (Nat.le_of_ble_eq_true rfl) rfl ?_
  refine w_iload_n 0 dX6_init_25 rfl rfl ?_
  refine c_new (nx' := 40) (k' := 23) (n' := 2031) 9 dX6_init_26 rfl (nwX6_9 rfl) (Nat.le_of_ble_eq_true rfl) (Nat.le_of_ble_eq_true rfl) rfl rfl rfl ?_
  refine w_dup dX6_init_29 rfl ?_
  refine c_init M_X9_init [] [.ref 39, vi 7, .ref 17] rfl (show 23 + 2 = 25 from rfl) (show 2031 + 281 = 2312 from rfl) dX6_init_30 (lkX6_17 _ rfl) (Nat.le_of_ble_eq_true rfl) (Nat.le_of_ble_eq_true rfl) (Nat.le_of_ble_eq_true rfl) (Nat.le_of_ble_eq_true rfl) (i_39 Rb ((17, 6, 36) :: (36, 1, 38) :: (36, 0, 37) :: (17, 5, 33) :: (33, 1, 35) :: (33, 0, 34) :: (17, 4, 30) :: (30, 1, 32) :: (30, 0, 31) :: (17, 3, 27) :: (27, 1, 29) :: (27, 0, 28) :: (17, 2, 24) :: (24, 1, 26) :: (24, 0, 25) :: (17, 1, 21) :: (21, 1, 23) :: (21, 0, 22) :: (17, 0, 18) :: (18, 1, 20) :: (18, 0, 19) :: (16, 0, 17) :: L) s) ?_
  refine c_aast (N := 8) 7 rfl (Nat.le_of_ble_eq_true rfl) (Nat.le_of_ble_eq_true rfl) dX6_init_33 rfl (Nat.le_of_ble_eq_true rfl) rfl (Nat.le_of_ble_eq_true rfl) ?_
  refine x_iinc (lv' := [(1, vi 8), (0, .ref 16)]) 0 dX6_init_34 rfl (Nat.le_of_ble_eq_true rfl) rfl ?_
  refine w_goto dX6_init_37 rfl ?_
  refine w_iload_n 0 dX6_init_15 rfl rfl ?_
  refine x_bipush dX6_init_16 (by decide) ?_
  refine c_ge_t (by unfold R; decide) dX6_init_18 rfl ?_
  exact w_return rfl dX6_init_40 rfl (Nat.le_of_ble_eq_true rfl) (Nat.le_of_ble_eq_true rfl) ⟨rfl, rfl⟩
set_option maxRecDepth 100000 in
theorem i_42 {C : Cx} (Rb : Nat → Nat → Option Nat) (L : List (Nat × Nat × Nat)) (s : Sg) : mm C M_X9_init 1 2 281 43 45 [.ref 42] (hcb Rb L s) (fun v h => v = none ∧ h = hcb Rb ((42, 1, 44) :: (42, 0, 43) :: L) s) XF := by
  refine mm_of rfl rfl (Nat.le_of_ble_eq_true rfl) ?_
  show ww C M_X9_init 1 2 281 45 _ XF 43 0 0 0 [(0, .ref 42)] [] (hcb Rb L s)
  refine w_aload_n 0 dX9_init_0 rfl rfl ?_
  refine c_obj dX9_init_1 (obX9_3 rfl) (Nat.le_of_ble_eq_true rfl) (Nat.le_of_ble_eq_true rfl) ?_
  refine w_aload_n 0 dX9_init_4 rfl rfl ?_
  refine x_bipush dX9_init_5 (by decide) ?_
  refine c_newarr (nx' := 44) (k' := 1) (n' := 81) .int 81 rfl (Nat.le_of_ble_eq_true rfl) dX9_init_7 rfl rfl (Or.inl rfl) na_int (Nat.le_of_ble_eq_true rfl) (Nat.le_of_ble_eq_true rfl) rfl rfl rfl ?_
  refine c_putR 9 0 dX9_init_9 (pfX9_9 rfl rfl) rfl rfl (Nat.le_of_ble_eq_true rfl) ?_
  refine w_aload_n 0 dX9_init_12 rfl rfl ?_
  refine x_sipush dX9_init_13 (by decide) ?_
  refine c_newarr (nx' := 45) (k' := 2) (n' := 281) .int 200 rfl (Nat.le_of_ble_eq_true rfl) dX9_init_16 rfl rfl (Or.inl rfl) na_int (Nat.le_of_ble_eq_true rfl) (Nat.le_of_ble_eq_true rfl) rfl rfl rfl ?_
  refine c_putR 9 1 dX9_init_18 (pfX9_15 rfl rfl) rfl rfl (Nat.le_of_ble_eq_true rfl) ?_
  exact w_return rfl dX9_init_21 rfl (Nat.le_of_ble_eq_true rfl) (Nat.le_of_ble_eq_true rfl) ⟨rfl, rfl⟩
set_option maxRecDepth 100000 in
theorem i_45 {C : Cx} (Rb : Nat → Nat → Option Nat) (L : List (Nat × Nat × Nat)) (s : Sg) : mm C M_X9_init 1 2 281 46 48 [.ref 45] (hcb Rb L s) (fun v h => v = none ∧ h = hcb Rb ((45, 1, 47) :: (45, 0, 46) :: L) s) XF := by
  refine mm_of rfl rfl (Nat.le_of_ble_eq_true rfl) ?_
  show ww C M_X9_init 1 2 281 48 _ XF 46 0 0 0 [(0, .ref 45)] [] (hcb Rb L s)
  refine w_aload_n 0 dX9_init_0 rfl rfl ?_
  refine c_obj dX9_init_1 (obX9_3 rfl) (Nat.le_of_ble_eq_true rfl) (Nat.le_of_ble_eq_true rfl) ?_
  refine w_aload_n 0 dX9_init_4 rfl rfl ?_
  refine x_bipush dX9_init_5 (by decide) ?_
  refine c_newarr (nx' := 47) (k' := 1) (n' := 81) .int 81 rfl (Nat.le_of_ble_eq_true rfl) dX9_init_7 rfl rfl (Or.inl rfl) na_int (Nat.le_of_ble_eq_true rfl) (Nat.le_of_ble_eq_true rfl) rfl rfl rfl ?_
  refine c_putR 9 0 dX9_init_9 (pfX9_9 rfl rfl) rfl rfl (Nat.le_of_ble_eq_true rfl) ?_
  refine w_aload_n 0 dX9_init_12 rfl rfl ?_
  refine x_sipush dX9_init_13 (by decide) ?_
  refine c_newarr (nx' := 48) (k' := 2) (n' := 281) .int 200 rfl (Nat.le_of_ble_eq_true rfl) dX9_init_16 rfl rfl (Or.inl rfl) na_int (Nat.le_of_ble_eq_true rfl) (Nat.le_of_ble_eq_true rfl) rfl rfl rfl ?_
  refine c_putR 9 1 dX9_init_18 (pfX9_15 rfl rfl) rfl rfl (Nat.le_of_ble_eq_true rfl) ?_
  exact w_return rfl dX9_init_21 rfl (Nat.le_of_ble_eq_true rfl) (Nat.le_of_ble_eq_true rfl) ⟨rfl, rfl⟩
set_option maxRecDepth 100000 in
theorem i_48 {C : Cx} (Rb : Nat → Nat → Option Nat) (L : List (Nat × Nat × Nat)) (s : Sg) : mm C M_X1_init 1 1 400 49 50 [.ref 48, vi 400] (hcb Rb L s) (fun v h => v = none ∧ h = hcb Rb ((48, 0, 49) :: L) s) XF := by
  refine mm_of rfl rfl (Nat.le_of_ble_eq_true rfl) ?_
  show ww C M_X1_init 1 1 400 50 _ XF 49 0 0 0 [(0, .ref 48), (1, vi 400)] [] (hcb Rb L s)
  refine w_aload_n 0 dX1_init_0 rfl rfl ?_
  refine c_obj dX1_init_1 (obX1_3 rfl) (Nat.le_of_ble_eq_true rfl) (Nat.le_of_ble_eq_true rfl) ?_
  refine w_aload_n 0 dX1_init_4 rfl rfl ?_
  refine x_iconst dX1_init_5 ?_
  refine w_iload_n 1 dX1_init_6 rfl rfl ?_
  refine x_mmax (by unfold R; decide) (by unfold R; decide) dX1_init_7 (lkX1_9 rfl) (Nat.le_of_ble_eq_true rfl) (Nat.le_of_ble_eq_true rfl) (Nat.le_of_ble_eq_true rfl) (Nat.le_of_ble_eq_true rfl) ?_
  refine c_newarr (nx' := 50) (k' := 1) (n' := 400) .int 400 (by decide) (Nat.le_of_ble_eq_true rfl) dX1_init_10 rfl rfl (Or.inl rfl) na_int (Nat.le_of_ble_eq_true rfl) (Nat.le_of_ble_eq_true rfl) rfl rfl rfl ?_
  refine c_putR 1 0 dX1_init_12 (pfX1_15 rfl rfl) rfl rfl (Nat.le_of_ble_eq_true rfl) ?_
  exact w_return rfl dX1_init_15 rfl (Nat.le_of_ble_eq_true rfl) (Nat.le_of_ble_eq_true rfl) ⟨rfl, rfl⟩
set_option maxRecDepth 100000 in
theorem i_50 {C : Cx} (Rb : Nat → Nat → Option Nat) (L : List (Nat × Nat × Nat)) (s : Sg) : mm C M_X1_init 1 1 9 51 52 [.ref 50, vi 9] (hcb Rb L s) (fun v h => v = none ∧ h = hcb Rb ((50, 0, 51) :: L) s) XF := by
  refine mm_of rfl rfl (Nat.le_of_ble_eq_true rfl) ?_
  show ww C M_X1_init 1 1 9 52 _ XF 51 0 0 0 [(0, .ref 50), (1, vi 9)] [] (hcb Rb L s)
  refine w_aload_n 0 dX1_init_0 rfl rfl ?_
  refine c_obj dX1_init_1 (obX1_3 rfl) (Nat.le_of_ble_eq_true rfl) (Nat.le_of_ble_eq_true rfl) ?_
  refine w_aload_n 0 dX1_init_4 rfl rfl ?_
  refine x_iconst dX1_init_5 ?_
  refine w_iload_n 1 dX1_init_6 rfl rfl ?_
  refine x_mmax (by unfold R; decide) (by unfold R; decide) dX1_init_7 (lkX1_9 rfl) (Nat.le_of_ble_eq_true rfl) (Nat.le_of_ble_eq_true rfl) (Nat.le_of_ble_eq_true rfl) (Nat.le_of_ble_eq_true rfl) ?_
  refine c_newarr (nx' := 52) (k' := 1) (n' := 9) .int 9 (by decide) (Nat.le_of_ble_eq_true rfl) dX1_init_10 rfl rfl (Or.inl rfl) na_int (Nat.le_of_ble_eq_true rfl) (Nat.le_of_ble_eq_true rfl) rfl rfl rfl ?_
  refine c_putR 1 0 dX1_init_12 (pfX1_15 rfl rfl) rfl rfl (Nat.le_of_ble_eq_true rfl) ?_
  exact w_return rfl dX1_init_15 rfl (Nat.le_of_ble_eq_true rfl) (Nat.le_of_ble_eq_true rfl) ⟨rfl, rfl⟩
set_option maxRecDepth 100000 in
theorem i_53 {C : Cx} (Rb : Nat → Nat → Option Nat) (L : List (Nat × Nat × Nat)) (s : Sg) : mm C M_X9_init 1 2 281 54 56 [.ref 53] (hcb Rb L s) (fun v h => v = none ∧ h = hcb Rb ((53, 1, 55) :: (53, 0, 54) :: L) s) XF := by
  refine mm_of rfl rfl (Nat.le_of_ble_eq_true rfl) ?_
  show ww C M_X9_init 1 2 281 56 _ XF 54 0 0 0 [(0, .ref 53)] [] (hcb Rb L s)
  refine w_aload_n 0 dX9_init_0 rfl rfl ?_
  refine c_obj dX9_init_1 (obX9_3 rfl) (Nat.le_of_ble_eq_true rfl) (Nat.le_of_ble_eq_true rfl) ?_
  refine w_aload_n 0 dX9_init_4 rfl rfl ?_
  refine x_bipush dX9_init_5 (by decide) ?_
  refine c_newarr (nx' := 55) (k' := 1) (n' := 81) .int 81 rfl (Nat.le_of_ble_eq_true rfl) dX9_init_7 rfl rfl (Or.inl rfl) na_int (Nat.le_of_ble_eq_true rfl) (Nat.le_of_ble_eq_true rfl) rfl rfl rfl ?_
  refine c_putR 9 0 dX9_init_9 (pfX9_9 rfl rfl) rfl rfl (Nat.le_of_ble_eq_true rfl) ?_
  refine w_aload_n 0 dX9_init_12 rfl rfl ?_
  refine x_sipush dX9_init_13 (by decide) ?_
  refine c_newarr (nx' := 56) (k' := 2) (n' := 281) .int 200 rfl (Nat.le_of_ble_eq_true rfl) dX9_init_16 rfl rfl (Or.inl rfl) na_int (Nat.le_of_ble_eq_true rfl) (Nat.le_of_ble_eq_true rfl) rfl rfl rfl ?_
  refine c_putR 9 1 dX9_init_18 (pfX9_15 rfl rfl) rfl rfl (Nat.le_of_ble_eq_true rfl) ?_
  exact w_return rfl dX9_init_21 rfl (Nat.le_of_ble_eq_true rfl) (Nat.le_of_ble_eq_true rfl) ⟨rfl, rfl⟩
set_option maxRecDepth 100000 in
theorem i_52 {C : Cx} (Rb : Nat → Nat → Option Nat) (L : List (Nat × Nat × Nat)) (s : Sg) : mm C M_X10_init 2 3 288 53 56 [.ref 52, .ref 48, .ref 1, .ref 5] (hcb Rb L s) (fun v h => v = none ∧ h = hcb Rb ((52, 3, 53) :: (53, 1, 55) :: (53, 0, 54) :: (52, 2, 5) :: (52, 1, 1) :: (52, 0, 48) :: L) s) XF := by
  refine mm_of rfl rfl (Nat.le_of_ble_eq_true rfl) ?_
  show ww C M_X10_init 2 3 288 56 _ XF 53 0 0 0 [(0, .ref 52), (1, .ref 48), (2, .ref 1), (3, .ref 5)] [] (hcb Rb L s)
  refine w_aload_n 0 dX10_init_0 rfl rfl ?_
  refine c_obj dX10_init_1 (obX10_3 rfl) (Nat.le_of_ble_eq_true rfl) (Nat.le_of_ble_eq_true rfl) ?_
  refine w_aload_n 0 dX10_init_4 rfl rfl ?_
  refine w_aload_n 1 dX10_init_5 rfl rfl ?_
  refine c_putR 10 0 dX10_init_6 (pfX10_9 rfl rfl) rfl rfl (Nat.le_of_ble_eq_true rfl) ?_
  refine w_aload_n 0 dX10_init_9 rfl rfl ?_
  refine w_aload_n 2 dX10_init_10 rfl rfl ?_
  refine c_putR 10 1 dX10_init_11 (pfX10_15 rfl rfl) rfl rfl (Nat.le_of_ble_eq_true rfl) ?_
  refine w_aload_n 0 dX10_init_14 rfl rfl ?_
  refine w_aload_n 3 dX10_init_15 rfl rfl ?_
  refine c_putR 10 2 dX10_init_16 (pfX10_19 rfl rfl) rfl rfl (Nat.le_of_ble_eq_true rfl) ?_
  refine w_aload_n 0 dX10_init_19 rfl rfl ?_
  refine c_new (nx' := 54) (k' := 1) (n' := 7) 9 dX10_init_20 rfl (nwX10_23 rfl) (Nat.le_of_ble_eq_true rfl) (Nat.le_of_ble_eq_true rfl) rfl rfl rfl ?_
  refine w_dup dX10_init_23 rfl ?_
  refine c_init M_X9_init [] [.ref 53, .ref 52] rfl (show 1 + 2 = 3 from rfl) (show 7 + 281 = 288 from rfl) dX10_init_24 (lkX10_25 _ rfl) (Nat.le_of_ble_eq_true rfl) (Nat.le_of_ble_eq_true rfl) (Nat.le_of_ble_eq_true rfl) (Nat.le_of_ble_eq_true rfl) (i_53 Rb ((52, 2, 5) :: (52, 1, 1) :: (52, 0, 48) :: L) s) ?_
  refine c_putR 10 3 dX10_init_27 (pfX10_26 rfl rfl) rfl rfl (Nat.le_of_ble_eq_true rfl) ?_
  exact w_return rfl dX10_init_30 rfl (Nat.le_of_ble_eq_true rfl) (Nat.le_of_ble_eq_true rfl) ⟨rfl, rfl⟩
set_option maxRecDepth 100000 in
theorem i_56 {C : Cx} (Rb : Nat → Nat → Option Nat) (L : List (Nat × Nat × Nat)) (s : Sg) : mm C M_X0_init 1 6 2106 57 63 [.ref 56, .ref 1] (hcb Rb L s) (fun v h => v = none ∧ h = hcb Rb ((56, 6, 62) :: (56, 5, 61) :: (56, 4, 60) :: (56, 3, 59) :: (56, 2, 58) :: (56, 1, 57) :: (56, 0, 1) :: L) s) XF := by
  refine mm_of rfl rfl (Nat.le_of_ble_eq_true rfl) ?_
  show ww C M_X0_init 1 6 2106 63 _ XF 57 0 0 0 [(0, .ref 56), (1, .ref 1)] [] (hcb Rb L s)
  refine w_aload_n 0 dX0_init_0 rfl rfl ?_
  refine c_obj dX0_init_1 (obX0_3 rfl) (Nat.le_of_ble_eq_true rfl) (Nat.le_of_ble_eq_true rfl) ?_
  refine w_aload_n 0 dX0_init_4 rfl rfl ?_
  refine w_aload_n 1 dX0_init_5 rfl rfl ?_
  refine c_putR 0 0 dX0_init_6 (pfX0_9 rfl rfl) rfl rfl (Nat.le_of_ble_eq_true rfl) ?_
  refine w_aload_n 0 dX0_init_9 rfl rfl ?_
  refine x_sipush dX0_init_10 (by decide) ?_
  refine c_newarr (nx' := 58) (k' := 1) (n' := 405) .int 405 rfl (Nat.le_of_ble_eq_true rfl) dX0_init_13 rfl rfl (Or.inl rfl) na_int (Nat.le_of_ble_eq_true rfl) (Nat.le_of_ble_eq_true rfl) rfl rfl rfl ?_
  refine c_putR 0 1 dX0_init_15 (pfX0_15 rfl rfl) rfl rfl (Nat.le_of_ble_eq_true rfl) ?_
  refine w_aload_n 0 dX0_init_18 rfl rfl ?_
  refine x_sipush dX0_init_19 (by decide) ?_
  refine c_newarr (nx' := 59) (k' := 2) (n' := 810) .int 405 rfl (Nat.le_of_ble_eq_true rfl) dX0_init_22 rfl rfl (Or.inl rfl) na_int (Nat.le_of_ble_eq_true rfl) (Nat.le_of_ble_eq_true rfl) rfl rfl rfl ?_
  refine c_putR 0 2 dX0_init_24 (pfX0_19 rfl rfl) rfl rfl (Nat.le_of_ble_eq_true rfl) ?_
  refine w_aload_n 0 dX0_init_27 rfl rfl ?_
  refine x_sipush dX0_init_28 (by decide) ?_
  refine c_newarr (nx' := 60) (k' := 3) (n' := 1215) .int 405 rfl (Nat.le_of_ble_eq_true rfl) dX0_init_31 rfl rfl (Or.inl rfl) na_int (Nat.le_of_ble_eq_true rfl) (Nat.le_of_ble_eq_true rfl) rfl rfl rfl ?_
  refine c_putR 0 3 dX0_init_33 (pfX0_22 rfl rfl) rfl rfl (Nat.le_of_ble_eq_true rfl) ?_
  refine w_aload_n 0 dX0_init_36 rfl rfl ?_
  refine x_sipush dX0_init_37 (by decide) ?_
  refine c_newarr (nx' := 61) (k' := 4) (n' := 1620) .int 405 rfl (Nat.le_of_ble_eq_true rfl) dX0_init_40 rfl rfl (Or.inl rfl) na_int (Nat.le_of_ble_eq_true rfl) (Nat.le_of_ble_eq_true rfl) rfl rfl rfl ?_
  refine c_putR 0 4 dX0_init_42 (pfX0_25 rfl rfl) rfl rfl (Nat.le_of_ble_eq_true rfl) ?_
  refine w_aload_n 0 dX0_init_45 rfl rfl ?_
  refine x_sipush dX0_init_46 (by decide) ?_
  refine c_newarr (nx' := 62) (k' := 5) (n' := 2025) .int 405 rfl (Nat.le_of_ble_eq_true rfl) dX0_init_49 rfl rfl (Or.inl rfl) na_int (Nat.le_of_ble_eq_true rfl) (Nat.le_of_ble_eq_true rfl) rfl rfl rfl ?_
  refine c_putR 0 5 dX0_init_51 (pfX0_28 rfl rfl) rfl rfl (Nat.le_of_ble_eq_true rfl) ?_
  refine w_aload_n 0 dX0_init_54 rfl rfl ?_
  refine x_bipush dX0_init_55 (by decide) ?_
  refine c_newarr (nx' := 63) (k' := 6) (n' := 2106) .int 81 rfl (Nat.le_of_ble_eq_true rfl) dX0_init_57 rfl rfl (Or.inl rfl) na_int (Nat.le_of_ble_eq_true rfl) (Nat.le_of_ble_eq_true rfl) rfl rfl rfl ?_
  refine c_putR 0 6 dX0_init_59 (pfX0_31 rfl rfl) rfl rfl (Nat.le_of_ble_eq_true rfl) ?_
  exact w_return rfl dX0_init_62 rfl (Nat.le_of_ble_eq_true rfl) (Nat.le_of_ble_eq_true rfl) ⟨rfl, rfl⟩
set_option maxRecDepth 100000 in
theorem i_63 {C : Cx} (Rb : Nat → Nat → Option Nat) (L : List (Nat × Nat × Nat)) (s : Sg) : mm C M_X8_init 1 3 243 64 67 [.ref 63, .ref 1] (hcb Rb L s) (fun v h => v = none ∧ h = hcb Rb ((63, 3, 66) :: (63, 2, 65) :: (63, 1, 64) :: (63, 0, 1) :: L) s) XF := by
  refine mm_of rfl rfl (Nat.le_of_ble_eq_true rfl) ?_
  show ww C M_X8_init 1 3 243 67 _ XF 64 0 0 0 [(0, .ref 63), (1, .ref 1)] [] (hcb Rb L s)
  refine w_aload_n 0 dX8_init_0 rfl rfl ?_
  refine c_obj dX8_init_1 (obX8_3 rfl) (Nat.le_of_ble_eq_true rfl) (Nat.le_of_ble_eq_true rfl) ?_
  refine w_aload_n 0 dX8_init_4 rfl rfl ?_
  refine w_aload_n 1 dX8_init_5 rfl rfl ?_
  refine c_putR 8 0 dX8_init_6 (pfX8_9 rfl rfl) rfl rfl (Nat.le_of_ble_eq_true rfl) ?_
  refine w_aload_n 0 dX8_init_9 rfl rfl ?_
  refine x_bipush dX8_init_10 (by decide) ?_
  refine c_newarr (nx' := 65) (k' := 1) (n' := 81) .int 81 rfl (Nat.le_of_ble_eq_true rfl) dX8_init_12 rfl rfl (Or.inl rfl) na_int (Nat.le_of_ble_eq_true rfl) (Nat.le_of_ble_eq_true rfl) rfl rfl rfl ?_
  refine c_putR 8 1 dX8_init_14 (pfX8_15 rfl rfl) rfl rfl (Nat.le_of_ble_eq_true rfl) ?_
  refine w_aload_n 0 dX8_init_17 rfl rfl ?_
  refine x_bipush dX8_init_18 (by decide) ?_
  refine c_newarr (nx' := 66) (k' := 2) (n' := 162) .int 81 rfl (Nat.le_of_ble_eq_true rfl) dX8_init_20 rfl rfl (Or.inl rfl) na_int (Nat.le_of_ble_eq_true rfl) (Nat.le_of_ble_eq_true rfl) rfl rfl rfl ?_
  refine c_putR 8 2 dX8_init_22 (pfX8_19 rfl rfl) rfl rfl (Nat.le_of_ble_eq_true rfl) ?_
  refine w_aload_n 0 dX8_init_25 rfl rfl ?_
  refine x_bipush dX8_init_26 (by decide) ?_
  refine c_newarr (nx' := 67) (k' := 3) (n' := 243) .int 81 rfl (Nat.le_of_ble_eq_true rfl) dX8_init_28 rfl rfl (Or.inl rfl) na_int (Nat.le_of_ble_eq_true rfl) (Nat.le_of_ble_eq_true rfl) rfl rfl rfl ?_
  refine c_putR 8 3 dX8_init_30 (pfX8_22 rfl rfl) rfl rfl (Nat.le_of_ble_eq_true rfl) ?_
  exact w_return rfl dX8_init_33 rfl (Nat.le_of_ble_eq_true rfl) (Nat.le_of_ble_eq_true rfl) ⟨rfl, rfl⟩
set_option maxRecDepth 100000 in
theorem i_67 {C : Cx} (Rb : Nat → Nat → Option Nat) (L : List (Nat × Nat × Nat)) (s : Sg) : mm C M_X8_init 1 3 243 68 71 [.ref 67, .ref 1] (hcb Rb L s) (fun v h => v = none ∧ h = hcb Rb ((67, 3, 70) :: (67, 2, 69) :: (67, 1, 68) :: (67, 0, 1) :: L) s) XF := by
  refine mm_of rfl rfl (Nat.le_of_ble_eq_true rfl) ?_
  show ww C M_X8_init 1 3 243 71 _ XF 68 0 0 0 [(0, .ref 67), (1, .ref 1)] [] (hcb Rb L s)
  refine w_aload_n 0 dX8_init_0 rfl rfl ?_
  refine c_obj dX8_init_1 (obX8_3 rfl) (Nat.le_of_ble_eq_true rfl) (Nat.le_of_ble_eq_true rfl) ?_
  refine w_aload_n 0 dX8_init_4 rfl rfl ?_
  refine w_aload_n 1 dX8_init_5 rfl rfl ?_
  refine c_putR 8 0 dX8_init_6 (pfX8_9 rfl rfl) rfl rfl (Nat.le_of_ble_eq_true rfl) ?_
  refine w_aload_n 0 dX8_init_9 rfl rfl ?_
  refine x_bipush dX8_init_10 (by decide) ?_
  refine c_newarr (nx' := 69) (k' := 1) (n' := 81) .int 81 rfl (Nat.le_of_ble_eq_true rfl) dX8_init_12 rfl rfl (Or.inl rfl) na_int (Nat.le_of_ble_eq_true rfl) (Nat.le_of_ble_eq_true rfl) rfl rfl rfl ?_
  refine c_putR 8 1 dX8_init_14 (pfX8_15 rfl rfl) rfl rfl (Nat.le_of_ble_eq_true rfl) ?_
  refine w_aload_n 0 dX8_init_17 rfl rfl ?_
  refine x_bipush dX8_init_18 (by decide) ?_
  refine c_newarr (nx' := 70) (k' := 2) (n' := 162) .int 81 rfl (Nat.le_of_ble_eq_true rfl) dX8_init_20 rfl rfl (Or.inl rfl) na_int (Nat.le_of_ble_eq_true rfl) (Nat.le_of_ble_eq_true rfl) rfl rfl rfl ?_
  refine c_putR 8 2 dX8_init_22 (pfX8_19 rfl rfl) rfl rfl (Nat.le_of_ble_eq_true rfl) ?_
  refine w_aload_n 0 dX8_init_25 rfl rfl ?_
  refine x_bipush dX8_init_26 (by decide) ?_
  refine c_newarr (nx' := 71) (k' := 3) (n' := 243) .int 81 rfl (Nat.le_of_ble_eq_true rfl) dX8_init_28 rfl rfl (Or.inl rfl) na_int (Nat.le_of_ble_eq_true rfl) (Nat.le_of_ble_eq_true rfl) rfl rfl rfl ?_
  refine c_putR 8 3 dX8_init_30 (pfX8_22 rfl rfl) rfl rfl (Nat.le_of_ble_eq_true rfl) ?_
  exact w_return rfl dX8_init_33 rfl (Nat.le_of_ble_eq_true rfl) (Nat.le_of_ble_eq_true rfl) ⟨rfl, rfl⟩
set_option maxRecDepth 100000 in
theorem i_71 {C : Cx} (Rb : Nat → Nat → Option Nat) (L : List (Nat × Nat × Nat)) (s : Sg) : mm C M_X4_init 1 2 162 72 74 [.ref 71, .ref 1] (hcb Rb L s) (fun v h => v = none ∧ h = hcb Rb ((71, 2, 73) :: (71, 1, 72) :: (71, 0, 1) :: L) s) XF := by
  refine mm_of rfl rfl (Nat.le_of_ble_eq_true rfl) ?_
  show ww C M_X4_init 1 2 162 74 _ XF 72 0 0 0 [(0, .ref 71), (1, .ref 1)] [] (hcb Rb L s)
  refine w_aload_n 0 dX4_init_0 rfl rfl ?_
  refine c_obj dX4_init_1 (obX4_3 rfl) (Nat.le_of_ble_eq_true rfl) (Nat.le_of_ble_eq_true rfl) ?_
  refine w_aload_n 0 dX4_init_4 rfl rfl ?_
  refine w_aload_n 1 dX4_init_5 rfl rfl ?_
  refine c_putR 4 0 dX4_init_6 (pfX4_9 rfl rfl) rfl rfl (Nat.le_of_ble_eq_true rfl) ?_
  refine w_aload_n 0 dX4_init_9 rfl rfl ?_
  refine x_bipush dX4_init_10 (by decide) ?_
  refine c_newarr (nx' := 73) (k' := 1) (n' := 81) .int 81 rfl (Nat.le_of_ble_eq_true rfl) dX4_init_12 rfl rfl (Or.inl rfl) na_int (Nat.le_of_ble_eq_true rfl) (Nat.le_of_ble_eq_true rfl) rfl rfl rfl ?_
  refine c_putR 4 1 dX4_init_14 (pfX4_15 rfl rfl) rfl rfl (Nat.le_of_ble_eq_true rfl) ?_
  refine w_aload_n 0 dX4_init_17 rfl rfl ?_
  refine x_bipush dX4_init_18 (by decide) ?_
  refine c_newarr (nx' := 74) (k' := 2) (n' := 162) .int 81 rfl (Nat.le_of_ble_eq_true rfl) dX4_init_20 rfl rfl (Or.inl rfl) na_int (Nat.le_of_ble_eq_true rfl) (Nat.le_of_ble_eq_true rfl) rfl rfl rfl ?_
  refine c_putR 4 2 dX4_init_22 (pfX4_19 rfl rfl) rfl rfl (Nat.le_of_ble_eq_true rfl) ?_
  exact w_return rfl dX4_init_25 rfl (Nat.le_of_ble_eq_true rfl) (Nat.le_of_ble_eq_true rfl) ⟨rfl, rfl⟩
set_option maxRecDepth 100000 in
theorem i_74 {C : Cx} (Rb : Nat → Nat → Option Nat) (L : List (Nat × Nat × Nat)) (s : Sg) : mm C M_X2_init 1 3 151 75 78 [.ref 74, .ref 1, .ref 5] (hcb Rb L s) (fun v h => v = none ∧ h = hcb Rb ((74, 4, 77) :: (74, 3, 76) :: (74, 2, 75) :: (74, 1, 5) :: (74, 0, 1) :: L) s) XF := by
  refine mm_of rfl rfl (Nat.le_of_ble_eq_true rfl) ?_
  show ww C M_X2_init 1 3 151 78 _ XF 75 0 0 0 [(0, .ref 74), (1, .ref 1), (2, .ref 5)] [] (hcb Rb L s)
  refine w_aload_n 0 dX2_init_0 rfl rfl ?_
  refine c_obj dX2_init_1 (obX2_3 rfl) (Nat.le_of_ble_eq_true rfl) (Nat.le_of_ble_eq_true rfl) ?_
  refine w_aload_n 0 dX2_init_4 rfl rfl ?_
  refine w_aload_n 1 dX2_init_5 rfl rfl ?_
  refine c_putR 2 0 dX2_init_6 (pfX2_9 rfl rfl) rfl rfl (Nat.le_of_ble_eq_true rfl) ?_
  refine w_aload_n 0 dX2_init_9 rfl rfl ?_
  refine w_aload_n 2 dX2_init_10 rfl rfl ?_
  refine c_putR 2 1 dX2_init_11 (pfX2_15 rfl rfl) rfl rfl (Nat.le_of_ble_eq_true rfl) ?_
  refine w_aload_n 0 dX2_init_14 rfl rfl ?_
  refine x_bipush dX2_init_15 (by decide) ?_
  refine c_newarr (nx' := 76) (k' := 1) (n' := 81) .int 81 rfl (Nat.le_of_ble_eq_true rfl) dX2_init_17 rfl rfl (Or.inl rfl) na_int (Nat.le_of_ble_eq_true rfl) (Nat.le_of_ble_eq_true rfl) rfl rfl rfl ?_
  refine c_putR 2 2 dX2_init_19 (pfX2_19 rfl rfl) rfl rfl (Nat.le_of_ble_eq_true rfl) ?_
  refine w_aload_n 0 dX2_init_22 rfl rfl ?_
  refine x_bipush dX2_init_23 (by decide) ?_
  refine c_newarr (nx' := 77) (k' := 2) (n' := 87) .int 6 rfl (Nat.le_of_ble_eq_true rfl) dX2_init_25 rfl rfl (Or.inl rfl) na_int (Nat.le_of_ble_eq_true rfl) (Nat.le_of_ble_eq_true rfl) rfl rfl rfl ?_
  refine c_putR 2 3 dX2_init_27 (pfX2_23 rfl rfl) rfl rfl (Nat.le_of_ble_eq_true rfl) ?_
  refine w_aload_n 0 dX2_init_30 rfl rfl ?_
  refine x_bipush dX2_init_31 (by decide) ?_
  refine c_newarr (nx' := 78) (k' := 3) (n' := 151) .int 64 rfl (Nat.le_of_ble_eq_true rfl) dX2_init_33 rfl rfl (Or.inl rfl) na_int (Nat.le_of_ble_eq_true rfl) (Nat.le_of_ble_eq_true rfl) rfl rfl rfl ?_
  refine c_putR 2 4 dX2_init_35 (pfX2_26 rfl rfl) rfl rfl (Nat.le_of_ble_eq_true rfl) ?_
  exact w_return rfl dX2_init_38 rfl (Nat.le_of_ble_eq_true rfl) (Nat.le_of_ble_eq_true rfl) ⟨rfl, rfl⟩
set_option maxRecDepth 100000 in
theorem i_78 {C : Cx} (Rb : Nat → Nat → Option Nat) (L : List (Nat × Nat × Nat)) (s : Sg) : mm C M_X3_init 1 1 81 79 80 [.ref 78, .ref 1, .ref 5] (hcb Rb L s) (fun v h => v = none ∧ h = hcb Rb ((78, 2, 79) :: (78, 1, 5) :: (78, 0, 1) :: L) s) XF := by
  refine mm_of rfl rfl (Nat.le_of_ble_eq_true rfl) ?_
  show ww C M_X3_init 1 1 81 80 _ XF 79 0 0 0 [(0, .ref 78), (1, .ref 1), (2, .ref 5)] [] (hcb Rb L s)
  refine w_aload_n 0 dX3_init_0 rfl rfl ?_
  refine c_obj dX3_init_1 (obX3_3 rfl) (Nat.le_of_ble_eq_true rfl) (Nat.le_of_ble_eq_true rfl) ?_
  refine w_aload_n 0 dX3_init_4 rfl rfl ?_
  refine w_aload_n 1 dX3_init_5 rfl rfl ?_
  refine c_putR 3 0 dX3_init_6 (pfX3_9 rfl rfl) rfl rfl (Nat.le_of_ble_eq_true rfl) ?_
  refine w_aload_n 0 dX3_init_9 rfl rfl ?_
  refine w_aload_n 2 dX3_init_10 rfl rfl ?_
  refine c_putR 3 1 dX3_init_11 (pfX3_15 rfl rfl) rfl rfl (Nat.le_of_ble_eq_true rfl) ?_
  refine w_aload_n 0 dX3_init_14 rfl rfl ?_
  refine x_bipush dX3_init_15 (by decide) ?_
  refine c_newarr (nx' := 80) (k' := 1) (n' := 81) .int 81 rfl (Nat.le_of_ble_eq_true rfl) dX3_init_17 rfl rfl (Or.inl rfl) na_int (Nat.le_of_ble_eq_true rfl) (Nat.le_of_ble_eq_true rfl) rfl rfl rfl ?_
  refine c_putR 3 2 dX3_init_19 (pfX3_19 rfl rfl) rfl rfl (Nat.le_of_ble_eq_true rfl) ?_
  exact w_return rfl dX3_init_22 rfl (Nat.le_of_ble_eq_true rfl) (Nat.le_of_ble_eq_true rfl) ⟨rfl, rfl⟩
noncomputable def Hx_starts (s : Sg) : Option Sg := bnd (Gr_fit 2 s) fun s1 => bnd (Po_begin 10 2 s1) fun s2 => some s2
theorem hx_full (s : Sg) : hcb (Rbe 0) [(0, 15, 78), (78, 2, 79), (78, 1, 5), (78, 0, 1), (0, 14, 74), (74, 4, 77), (74, 3, 76), (74, 2, 75), (74, 1, 5), (74, 0, 1), (0, 13, 71), (71, 2, 73), (71, 1, 72), (71, 0, 1), (0, 12, 67), (67, 3, 70), (67, 2, 69), (67, 1, 68), (67, 0, 1), (0, 11, 63), (63, 3, 66), (63, 2, 65), (63, 1, 64), (63, 0, 1), (0, 10, 56), (56, 6, 62), (56, 5, 61), (56, 4, 60), (56, 3, 59), (56, 2, 58), (56, 1, 57), (56, 0, 1), (0, 9, 52), (52, 3, 53), (53, 1, 55), (53, 0, 54), (52, 2, 5), (52, 1, 1), (52, 0, 48), (0, 8, 50), (50, 0, 51), (0, 7, 48), (48, 0, 49), (0, 6, 45), (45, 1, 47), (45, 0, 46), (0, 5, 42), (42, 1, 44), (42, 0, 43), (0, 4, 16), (17, 7, 39), (39, 1, 41), (39, 0, 40), (17, 6, 36), (36, 1, 38), (36, 0, 37), (17, 5, 33), (33, 1, 35), (33, 0, 34), (17, 4, 30), (30, 1, 32), (30, 0, 31), (17, 3, 27), (27, 1, 29), (27, 0, 28), (17, 2, 24), (24, 1, 26), (24, 0, 25), (17, 1, 21), (21, 1, 23), (21, 0, 22), (17, 0, 18), (18, 1, 20), (18, 0, 19), (16, 0, 17), (0, 3, 13), (13, 1, 15), (13, 0, 14), (0, 2, 10), (10, 1, 12), (10, 0, 11), (0, 1, 5), (5, 4, 9), (5, 3, 8), (5, 2, 7), (5, 1, 6), (5, 0, 1), (0, 0, 1), (1, 2, 4), (1, 1, 3), (1, 0, 2)] s = hp 80 s := hcb_hp 0 80 _ s (Nat.le_of_ble_eq_true rfl) (by decide +kernel) (by decide +kernel)
set_option maxRecDepth 100000 in
theorem i_0 {C : Cx} (s : Sg) : ∀ o, Hx_starts s = some o → mm C M_X11_init 3 79 8178 1 80 [.ref 0] (hcb (Rbe 0) [] s) (fun v h => v = none ∧ h = hp 80 o) XF := by
  intro o hs
  unfold Hx_starts at hs
  refine mm_of rfl rfl (Nat.le_of_ble_eq_true rfl) ?_
  show ww C M_X11_init 3 79 8178 80 _ XF 1 0 0 0 [(0, .ref 0)] [] (hcb (Rbe 0) [] s)
  refine w_aload_n 0 dX11_init_0 rfl rfl ?_
  refine c_obj dX11_init_1 (obX11_1 rfl) (Nat.le_of_ble_eq_true rfl) (Nat.le_of_ble_eq_true rfl) ?_
  refine w_aload_n 0 dX11_init_4 rfl rfl ?_
  refine c_new (nx' := 2) (k' := 1) (n' := 5) 5 dX11_init_5 rfl (nwX11_7 rfl) (Nat.le_of_ble_eq_true rfl) (Nat.le_of_ble_eq_true rfl) rfl rfl rfl ?_
  refine w_dup dX11_init_8 rfl ?_
  refine c_init M_X5_init [] [.ref 1, .ref 0] rfl (show 1 + 3 = 4 from rfl) (show 5 + 648 = 653 from rfl) dX11_init_9 (lkX11_9 _ rfl) (Nat.le_of_ble_eq_true rfl) (Nat.le_of_ble_eq_true rfl) (Nat.le_of_ble_eq_true rfl) (Nat.le_of_ble_eq_true rfl) (i_1 (Rbe 0) ([]) s) ?_
  refine c_putR 11 0 dX11_init_12 (pfX11_10 rfl rfl) rfl rfl (Nat.le_of_ble_eq_true rfl) ?_
  refine w_aload_n 0 dX11_init_15 rfl rfl ?_
  refine c_new (nx' := 6) (k' := 5) (n' := 659) 7 dX11_init_16 rfl (nwX11_16 rfl) (Nat.le_of_ble_eq_true rfl) (Nat.le_of_ble_eq_true rfl) rfl rfl rfl ?_
  refine w_dup dX11_init_19 rfl ?_
  refine w_aload_n 0 dX11_init_20 rfl rfl ?_
  refine c_getR 11 0 (b := 1) dX11_init_21 (fxX11_10 rfl) rfl rfl (Nat.le_of_ble_eq_true rfl) rfl ?_
  refine c_init M_X7_init [.ref 1] [.ref 5, .ref 0] rfl (show 5 + 4 = 9 from rfl) (show 659 + 324 = 983 from rfl) dX11_init_24 (lkX11_18 _ rfl) (Nat.le_of_ble_eq_true rfl) (Nat.le_of_ble_eq_true rfl) (Nat.le_of_ble_eq_true rfl) (Nat.le_of_ble_eq_true rfl) (i_5 (Rbe 0) ((0, 0, 1) :: (1, 2, 4) :: (1, 1, 3) :: (1, 0, 2) :: []) s) ?_
  refine c_putR 11 1 dX11_init_27 (pfX11_21 rfl rfl) rfl rfl (Nat.le_of_ble_eq_true rfl) ?_
  refine w_aload_n 0 dX11_init_30 rfl rfl ?_
  refine c_new (nx' := 11) (k' := 10) (n' := 990) 9 dX11_init_31 rfl (nwX11_25 rfl) (Nat.le_of_ble_eq_true rfl) (Nat.le_of_ble_eq_true rfl) rfl rfl rfl ?_
  refine w_dup dX11_init_34 rfl ?_
  refine c_init M_X9_init [] [.ref 10, .ref 0] rfl (show 10 + 2 = 12 from rfl) (show 990 + 281 = 1271 from rfl) dX11_init_35 (lkX11_27 _ rfl) (Nat.le_of_ble_eq_true rfl) (Nat.le_of_ble_eq_true rfl) (Nat.le_of_ble_eq_true rfl) (Nat.le_of_ble_eq_true rfl) (i_10 (Rbe 0) ((0, 1, 5) :: (5, 4, 9) :: (5, 3, 8) :: (5, 2, 7) :: (5, 1, 6) :: (5, 0, 1) :: (0, 0, 1) :: (1, 2, 4) :: (1, 1, 3) :: (1, 0, 2) :: []) s) ?_
  refine c_putR 11 2 dX11_init_38 (pfX11_28 rfl rfl) rfl rfl (Nat.le_of_ble_eq_true rfl) ?_
  refine w_aload_n 0 dX11_init_41 rfl rfl ?_
  refine c_new (nx' := 14) (k' := 13) (n' := 1278) 9 dX11_init_42 rfl (nwX11_25 rfl) (Nat.le_of_ble_eq_true rfl) (Nat.le_of_ble_eq_true rfl) rfl rfl rfl ?_
  refine w_dup dX11_init_45 rfl ?_
  refine c_init M_X9_init [] [.ref 13, .ref 0] rfl (show 13 + 2 = 15 from rfl) (show 1278 + 281 = 1559 from rfl) dX11_init_46 (lkX11_27 _ rfl) (Nat.le_of_ble_eq_true rfl) (Nat.le_of_ble_eq_true rfl) (Nat.le_of_ble_eq_true rfl) (Nat.le_of_ble_eq_true rfl) (i_13 (Rbe 0) ((0, 2, 10) :: (10, 1, 12) :: (10, 0, 11) :: (0, 1, 5) :: (5, 4, 9) :: (5, 3, 8) :: (5, 2, 7) :: (5, 1, 6) :: (5, 0, 1) :: (0, 0, 1) :: (1, 2, 4) :: (1, 1, 3) :: (1, 0, 2) :: []) s) ?_
  refine c_putR 11 3 dX11_init_49 (pfX11_32 rfl rfl) rfl rfl (Nat.le_of_ble_eq_true rfl) ?_
  refine w_aload_n 0 dX11_init_52 rfl rfl ?_
  refine c_new (nx' := 17) (k' := 16) (n' := 1562) 6 dX11_init_53 rfl (nwX11_35 rfl) (Nat.le_of_ble_eq_true rfl) (Nat.le_of_ble_eq_true rfl) rfl rfl rfl ?_
  refine w_dup dX11_init_56 rfl ?_
  refine c_init M_X6_init [] [.ref 16, .ref 0] rfl (show 16 + 25 = 41 from rfl) (show 1562 + 2312 = 3874 from rfl) dX11_init_57 (lkX11_37 _ rfl) (Nat.le_of_ble_eq_true rfl) (Nat.le_of_ble_eq_true rfl) (Nat.le_of_ble_eq_true rfl) (Nat.le_of_ble_eq_true rfl) (i_16 (Rbe 0) ((0, 3, 13) :: (13, 1, 15) :: (13, 0, 14) :: (0, 2, 10) :: (10, 1, 12) :: (10, 0, 11) :: (0, 1, 5) :: (5, 4, 9) :: (5, 3, 8) :: (5, 2, 7) :: (5, 1, 6) :: (5, 0, 1) :: (0, 0, 1) :: (1, 2, 4) :: (1, 1, 3) :: (1, 0, 2) :: []) s) ?_
  refine c_putR 11 4 dX11_init_60 (pfX11_38 rfl rfl) rfl rfl (Nat.le_of_ble_eq_true rfl) ?_
  refine w_aload_n 0 dX11_init_63 rfl rfl ?_
  refine c_new (nx' := 43) (k' := 42) (n' := 3881) 9 dX11_init_64 rfl (nwX11_25 rfl) (Nat.le_of_ble_eq_true rfl) (Nat.le_of_ble_eq_true rfl) rfl rfl rfl ?_
  refine w_dup dX11_init_67 rfl ?_
  refine c_init M_X9_init [] [.ref 42, .ref 0] rfl (show 42 + 2 = 44 from rfl) (show 3881 + 281 = 4162 from rfl) dX11_init_68 (lkX11_27 _ rfl) (Nat.le_of_ble_eq_true rfl) (Nat.le_of_ble_eq_true rfl) (Nat.le_of_ble_eq_true rfl) (Nat.le_of_ble_eq_true rfl) (i_42 (Rbe 0) ((0, 4, 16) :: (17, 7, 39) :: (39, 1, 41) :: (39, 0, 40) :: (17, 6, 36) :: (36, 1, 38) :: (36, 0, 37) :: (17, 5, 33) :: (33, 1, 35) :: (33, 0, 34) :: (17, 4, 30) :: (30, 1, 32) :: (30, 0, 31) :: (17, 3, 27) :: (27, 1, 29) :: (27, 0, 28) :: (17, 2, 24) :: (24, 1, 26) :: (24, 0, 25) :: (17, 1, 21) :: (21, 1, 23) :: (21, 0, 22) :: (17, 0, 18) :: (18, 1, 20) :: (18, 0, 19) :: (16, 0, 17) :: (0, 3, 13) :: (13, 1, 15) :: (13, 0, 14) :: (0, 2, 10) :: (10, 1, 12) :: (10, 0, 11) :: (0, 1, 5) :: (5, 4, 9) :: (5, 3, 8) :: (5, 2, 7) :: (5, 1, 6) :: (5, 0, 1) :: (0, 0, 1) :: (1, 2, 4) :: (1, 1, 3) :: (1, 0, 2) :: []) s) ?_
  refine c_putR 11 5 dX11_init_71 (pfX11_42 rfl rfl) rfl rfl (Nat.le_of_ble_eq_true rfl) ?_
  refine w_aload_n 0 dX11_init_74 rfl rfl ?_
  refine c_new (nx' := 46) (k' := 45) (n' := 4169) 9 dX11_init_75 rfl (nwX11_25 rfl) (Nat.le_of_ble_eq_true rfl) (Nat.le_of_ble_eq_true rfl) rfl rfl rfl ?_
  refine w_dup dX11_init_78 rfl ?_
  refine c_init M_X9_init [] [.ref 45, .ref 0] rfl (show 45 + 2 = 47 from rfl) (show 4169 + 281 = 4450 from rfl) dX11_init_79 (lkX11_27 _ rfl) (Nat.le_of_ble_eq_true rfl) (Nat.le_of_ble_eq_true rfl) (Nat.le_of_ble_eq_true rfl) (Nat.le_of_ble_eq_true rfl) (i_45 (Rbe 0) ((0, 5, 42) :: (42, 1, 44) :: (42, 0, 43) :: (0, 4, 16) :: (17, 7, 39) :: (39, 1, 41) :: (39, 0, 40) :: (17, 6, 36) :: (36, 1, 38) :: (36, 0, 37) :: (17, 5, 33) :: (33, 1, 35) :: (33, 0, 34) :: (17, 4, 30) :: (30, 1, 32) :: (30, 0, 31) :: (17, 3, 27) :: (27, 1, 29) :: (27, 0, 28) :: (17, 2, 24) :: (24, 1, 26) :: (24, 0, 25) :: (17, 1, 21) :: (21, 1, 23) :: (21, 0, 22) :: (17, 0, 18) :: (18, 1, 20) :: (18, 0, 19) :: (16, 0, 17) :: (0, 3, 13) :: (13, 1, 15) :: (13, 0, 14) :: (0, 2, 10) :: (10, 1, 12) :: (10, 0, 11) :: (0, 1, 5) :: (5, 4, 9) :: (5, 3, 8) :: (5, 2, 7) :: (5, 1, 6) :: (5, 0, 1) :: (0, 0, 1) :: (1, 2, 4) :: (1, 1, 3) :: (1, 0, 2) :: []) s) ?_
  refine c_putR 11 6 dX11_init_82 (pfX11_45 rfl rfl) rfl rfl (Nat.le_of_ble_eq_true rfl) ?_
  refine w_aload_n 0 dX11_init_85 rfl rfl ?_
  refine c_new (nx' := 49) (k' := 48) (n' := 4452) 1 dX11_init_86 rfl (nwX11_48 rfl) (Nat.le_of_ble_eq_true rfl) (Nat.le_of_ble_eq_true rfl) rfl rfl rfl ?_
  refine w_dup dX11_init_89 rfl ?_
  refine x_sipush dX11_init_90 (by decide) ?_
  refine c_init M_X1_init [vi 400] [.ref 48, .ref 0] rfl (show 48 + 1 = 49 from rfl) (show 4452 + 400 = 4852 from rfl) dX11_init_93 (lkX11_50 _ rfl) (Nat.le_of_ble_eq_true rfl) (Nat.le_of_ble_eq_true rfl) (Nat.le_of_ble_eq_true rfl) (Nat.le_of_ble_eq_true rfl) (i_48 (Rbe 0) ((0, 6, 45) :: (45, 1, 47) :: (45, 0, 46) :: (0, 5, 42) :: (42, 1, 44) :: (42, 0, 43) :: (0, 4, 16) :: (17, 7, 39) :: (39, 1, 41) :: (39, 0, 40) :: (17, 6, 36) :: (36, 1, 38) :: (36, 0, 37) :: (17, 5, 33) :: (33, 1, 35) :: (33, 0, 34) :: (17, 4, 30) :: (30, 1, 32) :: (30, 0, 31) :: (17, 3, 27) :: (27, 1, 29) :: (27, 0, 28) :: (17, 2, 24) :: (24, 1, 26) :: (24, 0, 25) :: (17, 1, 21) :: (21, 1, 23) :: (21, 0, 22) :: (17, 0, 18) :: (18, 1, 20) :: (18, 0, 19) :: (16, 0, 17) :: (0, 3, 13) :: (13, 1, 15) :: (13, 0, 14) :: (0, 2, 10) :: (10, 1, 12) :: (10, 0, 11) :: (0, 1, 5) :: (5, 4, 9) :: (5, 3, 8) :: (5, 2, 7) :: (5, 1, 6) :: (5, 0, 1) :: (0, 0, 1) :: (1, 2, 4) :: (1, 1, 3) :: (1, 0, 2) :: []) s) ?_
  refine c_putR 11 7 dX11_init_96 (pfX11_53 rfl rfl) rfl rfl (Nat.le_of_ble_eq_true rfl) ?_
  refine w_aload_n 0 dX11_init_99 rfl rfl ?_
  refine c_new (nx' := 51) (k' := 50) (n' := 4854) 1 dX11_init_100 rfl (nwX11_48 rfl) (Nat.le_of_ble_eq_true rfl) (Nat.le_of_ble_eq_true rfl) rfl rfl rfl ?_
  refine w_dup dX11_init_103 rfl ?_
  refine x_bipush dX11_init_104 (by decide) ?_
  refine c_init M_X1_init [vi 9] [.ref 50, .ref 0] rfl (show 50 + 1 = 51 from rfl) (show 4854 + 9 = 4863 from rfl) dX11_init_106 (lkX11_50 _ rfl) (Nat.le_of_ble_eq_true rfl) (Nat.le_of_ble_eq_true rfl) (Nat.le_of_ble_eq_true rfl) (Nat.le_of_ble_eq_true rfl) (i_50 (Rbe 0) ((0, 7, 48) :: (48, 0, 49) :: (0, 6, 45) :: (45, 1, 47) :: (45, 0, 46) :: (0, 5, 42) :: (42, 1, 44) :: (42, 0, 43) :: (0, 4, 16) :: (17, 7, 39) :: (39, 1, 41) :: (39, 0, 40) :: (17, 6, 36) :: (36, 1, 38) :: (36, 0, 37) :: (17, 5, 33) :: (33, 1, 35) :: (33, 0, 34) :: (17, 4, 30) :: (30, 1, 32) :: (30, 0, 31) :: (17, 3, 27) :: (27, 1, 29) :: (27, 0, 28) :: (17, 2, 24) :: (24, 1, 26) :: (24, 0, 25) :: (17, 1, 21) :: (21, 1, 23) :: (21, 0, 22) :: (17, 0, 18) :: (18, 1, 20) :: (18, 0, 19) :: (16, 0, 17) :: (0, 3, 13) :: (13, 1, 15) :: (13, 0, 14) :: (0, 2, 10) :: (10, 1, 12) :: (10, 0, 11) :: (0, 1, 5) :: (5, 4, 9) :: (5, 3, 8) :: (5, 2, 7) :: (5, 1, 6) :: (5, 0, 1) :: (0, 0, 1) :: (1, 2, 4) :: (1, 1, 3) :: (1, 0, 2) :: []) s) ?_
  refine c_putR 11 8 dX11_init_109 (pfX11_57 rfl rfl) rfl rfl (Nat.le_of_ble_eq_true rfl) ?_
  refine w_aload_n 0 dX11_init_112 rfl rfl ?_
  refine c_new (nx' := 53) (k' := 52) (n' := 4874) 10 dX11_init_113 rfl (nwX11_60 rfl) (Nat.le_of_ble_eq_true rfl) (Nat.le_of_ble_eq_true rfl) rfl rfl rfl ?_
  refine w_dup dX11_init_116 rfl ?_
  refine w_aload_n 0 dX11_init_117 rfl rfl ?_
  refine c_getR 11 7 (b := 48) dX11_init_118 (fxX11_53 rfl) rfl rfl (Nat.le_of_ble_eq_true rfl) rfl ?_
  refine w_aload_n 0 dX11_init_121 rfl rfl ?_
  refine c_getR 11 0 (b := 1) dX11_init_122 (fxX11_10 rfl) rfl rfl (Nat.le_of_ble_eq_true rfl) rfl ?_
  refine w_aload_n 0 dX11_init_125 rfl rfl ?_
  refine c_getR 11 1 (b := 5) dX11_init_126 (fxX11_21 rfl) rfl rfl (Nat.le_of_ble_eq_true rfl) rfl ?_
  refine c_init M_X10_init [.ref 48, .ref 1, .ref 5] [.ref 52, .ref 0] rfl (show 52 + 3 = 55 from rfl) (show 4874 + 288 = 5162 from rfl) dX11_init_129 (lkX11_62 _ rfl) (Nat.le_of_ble_eq_true rfl) (Nat.le_of_ble_eq_true rfl) (Nat.le_of_ble_eq_true rfl) (Nat.le_of_ble_eq_true rfl) (i_52 (Rbe 0) ((0, 8, 50) :: (50, 0, 51) :: (0, 7, 48) :: (48, 0, 49) :: (0, 6, 45) :: (45, 1, 47) :: (45, 0, 46) :: (0, 5, 42) :: (42, 1, 44) :: (42, 0, 43) :: (0, 4, 16) :: (17, 7, 39) :: (39, 1, 41) :: (39, 0, 40) :: (17, 6, 36) :: (36, 1, 38) :: (36, 0, 37) :: (17, 5, 33) :: (33, 1, 35) :: (33, 0, 34) :: (17, 4, 30) :: (30, 1, 32) :: (30, 0, 31) :: (17, 3, 27) :: (27, 1, 29) :: (27, 0, 28) :: (17, 2, 24) :: (24, 1, 26) :: (24, 0, 25) :: (17, 1, 21) :: (21, 1, 23) :: (21, 0, 22) :: (17, 0, 18) :: (18, 1, 20) :: (18, 0, 19) :: (16, 0, 17) :: (0, 3, 13) :: (13, 1, 15) :: (13, 0, 14) :: (0, 2, 10) :: (10, 1, 12) :: (10, 0, 11) :: (0, 1, 5) :: (5, 4, 9) :: (5, 3, 8) :: (5, 2, 7) :: (5, 1, 6) :: (5, 0, 1) :: (0, 0, 1) :: (1, 2, 4) :: (1, 1, 3) :: (1, 0, 2) :: []) s) ?_
  refine c_putR 11 9 dX11_init_132 (pfX11_65 rfl rfl) rfl rfl (Nat.le_of_ble_eq_true rfl) ?_
  refine w_aload_n 0 dX11_init_135 rfl rfl ?_
  refine c_new (nx' := 57) (k' := 56) (n' := 5170) 0 dX11_init_136 rfl (nwX11_69 rfl) (Nat.le_of_ble_eq_true rfl) (Nat.le_of_ble_eq_true rfl) rfl rfl rfl ?_
  refine w_dup dX11_init_139 rfl ?_
  refine w_aload_n 0 dX11_init_140 rfl rfl ?_
  refine c_getR 11 0 (b := 1) dX11_init_141 (fxX11_10 rfl) rfl rfl (Nat.le_of_ble_eq_true rfl) rfl ?_
  refine c_init M_X0_init [.ref 1] [.ref 56, .ref 0] rfl (show 56 + 6 = 62 from rfl) (show 5170 + 2106 = 7276 from rfl) dX11_init_144 (lkX11_71 _ rfl) (Nat.le_of_ble_eq_true rfl) (Nat.le_of_ble_eq_true rfl) (Nat.le_of_ble_eq_true rfl) (Nat.le_of_ble_eq_true rfl) (i_56 (Rbe 0) ((0, 9, 52) :: (52, 3, 53) :: (53, 1, 55) :: (53, 0, 54) :: (52, 2, 5) :: (52, 1, 1) :: (52, 0, 48) :: (0, 8, 50) :: (50, 0, 51) :: (0, 7, 48) :: (48, 0, 49) :: (0, 6, 45) :: (45, 1, 47) :: (45, 0, 46) :: (0, 5, 42) :: (42, 1, 44) :: (42, 0, 43) :: (0, 4, 16) :: (17, 7, 39) :: (39, 1, 41) :: (39, 0, 40) :: (17, 6, 36) :: (36, 1, 38) :: (36, 0, 37) :: (17, 5, 33) :: (33, 1, 35) :: (33, 0, 34) :: (17, 4, 30) :: (30, 1, 32) :: (30, 0, 31) :: (17, 3, 27) :: (27, 1, 29) :: (27, 0, 28) :: (17, 2, 24) :: (24, 1, 26) :: (24, 0, 25) :: (17, 1, 21) :: (21, 1, 23) :: (21, 0, 22) :: (17, 0, 18) :: (18, 1, 20) :: (18, 0, 19) :: (16, 0, 17) :: (0, 3, 13) :: (13, 1, 15) :: (13, 0, 14) :: (0, 2, 10) :: (10, 1, 12) :: (10, 0, 11) :: (0, 1, 5) :: (5, 4, 9) :: (5, 3, 8) :: (5, 2, 7) :: (5, 1, 6) :: (5, 0, 1) :: (0, 0, 1) :: (1, 2, 4) :: (1, 1, 3) :: (1, 0, 2) :: []) s) ?_
  refine c_putR 11 10 dX11_init_147 (pfX11_72 rfl rfl) rfl rfl (Nat.le_of_ble_eq_true rfl) ?_
  refine w_aload_n 0 dX11_init_150 rfl rfl ?_
  refine c_new (nx' := 64) (k' := 63) (n' := 7280) 8 dX11_init_151 rfl (nwX11_76 rfl) (Nat.le_of_ble_eq_true rfl) (Nat.le_of_ble_eq_true rfl) rfl rfl rfl ?_
  refine w_dup dX11_init_154 rfl ?_
  refine w_aload_n 0 dX11_init_155 rfl rfl ?_
  refine c_getR 11 0 (b := 1) dX11_init_156 (fxX11_10 rfl) rfl rfl (Nat.le_of_ble_eq_true rfl) rfl ?_
  refine c_init M_X8_init [.ref 1] [.ref 63, .ref 0] rfl (show 63 + 3 = 66 from rfl) (show 7280 + 243 = 7523 from rfl) dX11_init_159 (lkX11_78 _ rfl) (Nat.le_of_ble_eq_true rfl) (Nat.le_of_ble_eq_true rfl) (Nat.le_of_ble_eq_true rfl) (Nat.le_of_ble_eq_true rfl) (i_63 (Rbe 0) ((0, 10, 56) :: (56, 6, 62) :: (56, 5, 61) :: (56, 4, 60) :: (56, 3, 59) :: (56, 2, 58) :: (56, 1, 57) :: (56, 0, 1) :: (0, 9, 52) :: (52, 3, 53) :: (53, 1, 55) :: (53, 0, 54) :: (52, 2, 5) :: (52, 1, 1) :: (52, 0, 48) :: (0, 8, 50) :: (50, 0, 51) :: (0, 7, 48) :: (48, 0, 49) :: (0, 6, 45) :: (45, 1, 47) :: (45, 0, 46) :: (0, 5, 42) :: (42, 1, 44) :: (42, 0, 43) :: (0, 4, 16) :: (17, 7, 39) :: (39, 1, 41) :: (39, 0, 40) :: (17, 6, 36) :: (36, 1, 38) :: (36, 0, 37) :: (17, 5, 33) :: (33, 1, 35) :: (33, 0, 34) :: (17, 4, 30) :: (30, 1, 32) :: (30, 0, 31) :: (17, 3, 27) :: (27, 1, 29) :: (27, 0, 28) :: (17, 2, 24) :: (24, 1, 26) :: (24, 0, 25) :: (17, 1, 21) :: (21, 1, 23) :: (21, 0, 22) :: (17, 0, 18) :: (18, 1, 20) :: (18, 0, 19) :: (16, 0, 17) :: (0, 3, 13) :: (13, 1, 15) :: (13, 0, 14) :: (0, 2, 10) :: (10, 1, 12) :: (10, 0, 11) :: (0, 1, 5) :: (5, 4, 9) :: (5, 3, 8) :: (5, 2, 7) :: (5, 1, 6) :: (5, 0, 1) :: (0, 0, 1) :: (1, 2, 4) :: (1, 1, 3) :: (1, 0, 2) :: []) s) ?_
  refine c_putR 11 11 dX11_init_162 (pfX11_79 rfl rfl) rfl rfl (Nat.le_of_ble_eq_true rfl) ?_
  refine w_aload_n 0 dX11_init_165 rfl rfl ?_
  refine c_new (nx' := 68) (k' := 67) (n' := 7527) 8 dX11_init_166 rfl (nwX11_76 rfl) (Nat.le_of_ble_eq_true rfl) (Nat.le_of_ble_eq_true rfl) rfl rfl rfl ?_
  refine w_dup dX11_init_169 rfl ?_
  refine w_aload_n 0 dX11_init_170 rfl rfl ?_
  refine c_getR 11 0 (b := 1) dX11_init_171 (fxX11_10 rfl) rfl rfl (Nat.le_of_ble_eq_true rfl) rfl ?_
  refine c_init M_X8_init [.ref 1] [.ref 67, .ref 0] rfl (show 67 + 3 = 70 from rfl) (show 7527 + 243 = 7770 from rfl) dX11_init_174 (lkX11_78 _ rfl) (Nat.le_of_ble_eq_true rfl) (Nat.le_of_ble_eq_true rfl) (Nat.le_of_ble_eq_true rfl) (Nat.le_of_ble_eq_true rfl) (i_67 (Rbe 0) ((0, 11, 63) :: (63, 3, 66) :: (63, 2, 65) :: (63, 1, 64) :: (63, 0, 1) :: (0, 10, 56) :: (56, 6, 62) :: (56, 5, 61) :: (56, 4, 60) :: (56, 3, 59) :: (56, 2, 58) :: (56, 1, 57) :: (56, 0, 1) :: (0, 9, 52) :: (52, 3, 53) :: (53, 1, 55) :: (53, 0, 54) :: (52, 2, 5) :: (52, 1, 1) :: (52, 0, 48) :: (0, 8, 50) :: (50, 0, 51) :: (0, 7, 48) :: (48, 0, 49) :: (0, 6, 45) :: (45, 1, 47) :: (45, 0, 46) :: (0, 5, 42) :: (42, 1, 44) :: (42, 0, 43) :: (0, 4, 16) :: (17, 7, 39) :: (39, 1, 41) :: (39, 0, 40) :: (17, 6, 36) :: (36, 1, 38) :: (36, 0, 37) :: (17, 5, 33) :: (33, 1, 35) :: (33, 0, 34) :: (17, 4, 30) :: (30, 1, 32) :: (30, 0, 31) :: (17, 3, 27) :: (27, 1, 29) :: (27, 0, 28) :: (17, 2, 24) :: (24, 1, 26) :: (24, 0, 25) :: (17, 1, 21) :: (21, 1, 23) :: (21, 0, 22) :: (17, 0, 18) :: (18, 1, 20) :: (18, 0, 19) :: (16, 0, 17) :: (0, 3, 13) :: (13, 1, 15) :: (13, 0, 14) :: (0, 2, 10) :: (10, 1, 12) :: (10, 0, 11) :: (0, 1, 5) :: (5, 4, 9) :: (5, 3, 8) :: (5, 2, 7) :: (5, 1, 6) :: (5, 0, 1) :: (0, 0, 1) :: (1, 2, 4) :: (1, 1, 3) :: (1, 0, 2) :: []) s) ?_
  refine c_putR 11 12 dX11_init_177 (pfX11_83 rfl rfl) rfl rfl (Nat.le_of_ble_eq_true rfl) ?_
  refine w_aload_n 0 dX11_init_180 rfl rfl ?_
  refine c_new (nx' := 72) (k' := 71) (n' := 7774) 4 dX11_init_181 rfl (nwX11_86 rfl) (Nat.le_of_ble_eq_true rfl) (Nat.le_of_ble_eq_true rfl) rfl rfl rfl ?_
  refine w_dup dX11_init_184 rfl ?_
  refine w_aload_n 0 dX11_init_185 rfl rfl ?_
  refine c_getR 11 0 (b := 1) dX11_init_186 (fxX11_10 rfl) rfl rfl (Nat.le_of_ble_eq_true rfl) rfl ?_
  refine c_init M_X4_init [.ref 1] [.ref 71, .ref 0] rfl (show 71 + 2 = 73 from rfl) (show 7774 + 162 = 7936 from rfl) dX11_init_189 (lkX11_88 _ rfl) (Nat.le_of_ble_eq_true rfl) (Nat.le_of_ble_eq_true rfl) (Nat.le_of_ble_eq_true rfl) (Nat.le_of_ble_eq_true rfl) (i_71 (Rbe 0) ((0, 12, 67) :: (67, 3, 70) :: (67, 2, 69) :: (67, 1, 68) :: (67, 0, 1) :: (0, 11, 63) :: (63, 3, 66) :: (63, 2, 65) :: (63, 1, 64) :: (63, 0, 1) :: (0, 10, 56) :: (56, 6, 62) :: (56, 5, 61) :: (56, 4, 60) :: (56, 3, 59) :: (56, 2, 58) :: (56, 1, 57) :: (56, 0, 1) :: (0, 9, 52) :: (52, 3, 53) :: (53, 1, 55) :: (53, 0, 54) :: (52, 2, 5) :: (52, 1, 1) :: (52, 0, 48) :: (0, 8, 50) :: (50, 0, 51) :: (0, 7, 48) :: (48, 0, 49) :: (0, 6, 45) :: (45, 1, 47) :: (45, 0, 46) :: (0, 5, 42) :: (42, 1, 44) :: (42, 0, 43) :: (0, 4, 16) :: (17, 7, 39) :: (39, 1, 41) :: (39, 0, 40) :: (17, 6, 36) :: (36, 1, 38) :: (36, 0, 37) :: (17, 5, 33) :: (33, 1, 35) :: (33, 0, 34) :: (17, 4, 30) :: (30, 1, 32) :: (30, 0, 31) :: (17, 3, 27) :: (27, 1, 29) :: (27, 0, 28) :: (17, 2, 24) :: (24, 1, 26) :: (24, 0, 25) :: (17, 1, 21) :: (21, 1, 23) :: (21, 0, 22) :: (17, 0, 18) :: (18, 1, 20) :: (18, 0, 19) :: (16, 0, 17) :: (0, 3, 13) :: (13, 1, 15) :: (13, 0, 14) :: (0, 2, 10) :: (10, 1, 12) :: (10, 0, 11) :: (0, 1, 5) :: (5, 4, 9) :: (5, 3, 8) :: (5, 2, 7) :: (5, 1, 6) :: (5, 0, 1) :: (0, 0, 1) :: (1, 2, 4) :: (1, 1, 3) :: (1, 0, 2) :: []) s) ?_
  refine c_putR 11 13 dX11_init_192 (pfX11_89 rfl rfl) rfl rfl (Nat.le_of_ble_eq_true rfl) ?_
  refine w_aload_n 0 dX11_init_195 rfl rfl ?_
  refine c_new (nx' := 75) (k' := 74) (n' := 7942) 2 dX11_init_196 rfl (nwX11_93 rfl) (Nat.le_of_ble_eq_true rfl) (Nat.le_of_ble_eq_true rfl) rfl rfl rfl ?_
  refine w_dup dX11_init_199 rfl ?_
  refine w_aload_n 0 dX11_init_200 rfl rfl ?_
  refine c_getR 11 0 (b := 1) dX11_init_201 (fxX11_10 rfl) rfl rfl (Nat.le_of_ble_eq_true rfl) rfl ?_
  refine w_aload_n 0 dX11_init_204 rfl rfl ?_
  refine c_getR 11 1 (b := 5) dX11_init_205 (fxX11_21 rfl) rfl rfl (Nat.le_of_ble_eq_true rfl) rfl ?_
  refine c_init M_X2_init [.ref 1, .ref 5] [.ref 74, .ref 0] rfl (show 74 + 3 = 77 from rfl) (show 7942 + 151 = 8093 from rfl) dX11_init_208 (lkX11_95 _ rfl) (Nat.le_of_ble_eq_true rfl) (Nat.le_of_ble_eq_true rfl) (Nat.le_of_ble_eq_true rfl) (Nat.le_of_ble_eq_true rfl) (i_74 (Rbe 0) ((0, 13, 71) :: (71, 2, 73) :: (71, 1, 72) :: (71, 0, 1) :: (0, 12, 67) :: (67, 3, 70) :: (67, 2, 69) :: (67, 1, 68) :: (67, 0, 1) :: (0, 11, 63) :: (63, 3, 66) :: (63, 2, 65) :: (63, 1, 64) :: (63, 0, 1) :: (0, 10, 56) :: (56, 6, 62) :: (56, 5, 61) :: (56, 4, 60) :: (56, 3, 59) :: (56, 2, 58) :: (56, 1, 57) :: (56, 0, 1) :: (0, 9, 52) :: (52, 3, 53) :: (53, 1, 55) :: (53, 0, 54) :: (52, 2, 5) :: (52, 1, 1) :: (52, 0, 48) :: (0, 8, 50) :: (50, 0, 51) :: (0, 7, 48) :: (48, 0, 49) :: (0, 6, 45) :: (45, 1, 47) :: (45, 0, 46) :: (0, 5, 42) :: (42, 1, 44) :: (42, 0, 43) :: (0, 4, 16) :: (17, 7, 39) :: (39, 1, 41) :: (39, 0, 40) :: (17, 6, 36) :: (36, 1, 38) :: (36, 0, 37) :: (17, 5, 33) :: (33, 1, 35) :: (33, 0, 34) :: (17, 4, 30) :: (30, 1, 32) :: (30, 0, 31) :: (17, 3, 27) :: (27, 1, 29) :: (27, 0, 28) :: (17, 2, 24) :: (24, 1, 26) :: (24, 0, 25) :: (17, 1, 21) :: (21, 1, 23) :: (21, 0, 22) :: (17, 0, 18) :: (18, 1, 20) :: (18, 0, 19) :: (16, 0, 17) :: (0, 3, 13) :: (13, 1, 15) :: (13, 0, 14) :: (0, 2, 10) :: (10, 1, 12) :: (10, 0, 11) :: (0, 1, 5) :: (5, 4, 9) :: (5, 3, 8) :: (5, 2, 7) :: (5, 1, 6) :: (5, 0, 1) :: (0, 0, 1) :: (1, 2, 4) :: (1, 1, 3) :: (1, 0, 2) :: []) s) ?_
  refine c_putR 11 14 dX11_init_211 (pfX11_98 rfl rfl) rfl rfl (Nat.le_of_ble_eq_true rfl) ?_
  refine w_aload_n 0 dX11_init_214 rfl rfl ?_
  refine c_new (nx' := 79) (k' := 78) (n' := 8097) 3 dX11_init_215 rfl (nwX11_102 rfl) (Nat.le_of_ble_eq_true rfl) (Nat.le_of_ble_eq_true rfl) rfl rfl rfl ?_
  refine w_dup dX11_init_218 rfl ?_
  refine w_aload_n 0 dX11_init_219 rfl rfl ?_
  refine c_getR 11 0 (b := 1) dX11_init_220 (fxX11_10 rfl) rfl rfl (Nat.le_of_ble_eq_true rfl) rfl ?_
  refine w_aload_n 0 dX11_init_223 rfl rfl ?_
  refine c_getR 11 1 (b := 5) dX11_init_224 (fxX11_21 rfl) rfl rfl (Nat.le_of_ble_eq_true rfl) rfl ?_
  refine c_init M_X3_init [.ref 1, .ref 5] [.ref 78, .ref 0] rfl (show 78 + 1 = 79 from rfl) (show 8097 + 81 = 8178 from rfl) dX11_init_227 (lkX11_104 _ rfl) (Nat.le_of_ble_eq_true rfl) (Nat.le_of_ble_eq_true rfl) (Nat.le_of_ble_eq_true rfl) (Nat.le_of_ble_eq_true rfl) (i_78 (Rbe 0) ((0, 14, 74) :: (74, 4, 77) :: (74, 3, 76) :: (74, 2, 75) :: (74, 1, 5) :: (74, 0, 1) :: (0, 13, 71) :: (71, 2, 73) :: (71, 1, 72) :: (71, 0, 1) :: (0, 12, 67) :: (67, 3, 70) :: (67, 2, 69) :: (67, 1, 68) :: (67, 0, 1) :: (0, 11, 63) :: (63, 3, 66) :: (63, 2, 65) :: (63, 1, 64) :: (63, 0, 1) :: (0, 10, 56) :: (56, 6, 62) :: (56, 5, 61) :: (56, 4, 60) :: (56, 3, 59) :: (56, 2, 58) :: (56, 1, 57) :: (56, 0, 1) :: (0, 9, 52) :: (52, 3, 53) :: (53, 1, 55) :: (53, 0, 54) :: (52, 2, 5) :: (52, 1, 1) :: (52, 0, 48) :: (0, 8, 50) :: (50, 0, 51) :: (0, 7, 48) :: (48, 0, 49) :: (0, 6, 45) :: (45, 1, 47) :: (45, 0, 46) :: (0, 5, 42) :: (42, 1, 44) :: (42, 0, 43) :: (0, 4, 16) :: (17, 7, 39) :: (39, 1, 41) :: (39, 0, 40) :: (17, 6, 36) :: (36, 1, 38) :: (36, 0, 37) :: (17, 5, 33) :: (33, 1, 35) :: (33, 0, 34) :: (17, 4, 30) :: (30, 1, 32) :: (30, 0, 31) :: (17, 3, 27) :: (27, 1, 29) :: (27, 0, 28) :: (17, 2, 24) :: (24, 1, 26) :: (24, 0, 25) :: (17, 1, 21) :: (21, 1, 23) :: (21, 0, 22) :: (17, 0, 18) :: (18, 1, 20) :: (18, 0, 19) :: (16, 0, 17) :: (0, 3, 13) :: (13, 1, 15) :: (13, 0, 14) :: (0, 2, 10) :: (10, 1, 12) :: (10, 0, 11) :: (0, 1, 5) :: (5, 4, 9) :: (5, 3, 8) :: (5, 2, 7) :: (5, 1, 6) :: (5, 0, 1) :: (0, 0, 1) :: (1, 2, 4) :: (1, 1, 3) :: (1, 0, 2) :: []) s) ?_
  refine c_putR 11 15 dX11_init_230 (pfX11_105 rfl rfl) rfl rfl (Nat.le_of_ble_eq_true rfl) ?_
  show ww C M_X11_init 3 79 8178 80 _ XF 80 79 8178 233 [(0, .ref 0)] [] (hcb (Rbe 0) [(0, 15, 78), (78, 2, 79), (78, 1, 5), (78, 0, 1), (0, 14, 74), (74, 4, 77), (74, 3, 76), (74, 2, 75), (74, 1, 5), (74, 0, 1), (0, 13, 71), (71, 2, 73), (71, 1, 72), (71, 0, 1), (0, 12, 67), (67, 3, 70), (67, 2, 69), (67, 1, 68), (67, 0, 1), (0, 11, 63), (63, 3, 66), (63, 2, 65), (63, 1, 64), (63, 0, 1), (0, 10, 56), (56, 6, 62), (56, 5, 61), (56, 4, 60), (56, 3, 59), (56, 2, 58), (56, 1, 57), (56, 0, 1), (0, 9, 52), (52, 3, 53), (53, 1, 55), (53, 0, 54), (52, 2, 5), (52, 1, 1), (52, 0, 48), (0, 8, 50), (50, 0, 51), (0, 7, 48), (48, 0, 49), (0, 6, 45), (45, 1, 47), (45, 0, 46), (0, 5, 42), (42, 1, 44), (42, 0, 43), (0, 4, 16), (17, 7, 39), (39, 1, 41), (39, 0, 40), (17, 6, 36), (36, 1, 38), (36, 0, 37), (17, 5, 33), (33, 1, 35), (33, 0, 34), (17, 4, 30), (30, 1, 32), (30, 0, 31), (17, 3, 27), (27, 1, 29), (27, 0, 28), (17, 2, 24), (24, 1, 26), (24, 0, 25), (17, 1, 21), (21, 1, 23), (21, 0, 22), (17, 0, 18), (18, 1, 20), (18, 0, 19), (16, 0, 17), (0, 3, 13), (13, 1, 15), (13, 0, 14), (0, 2, 10), (10, 1, 12), (10, 0, 11), (0, 1, 5), (5, 4, 9), (5, 3, 8), (5, 2, 7), (5, 1, 6), (5, 0, 1), (0, 0, 1), (1, 2, 4), (1, 1, 3), (1, 0, 2)] s)
  rw [hx_full s]
  refine w_aload_n 0 dX11_init_233 rfl rfl ?_
  refine x_getR 11 0 (b := 1) dX11_init_234 (fxX11_10 rfl) rfl rfl (Nat.le_of_ble_eq_true rfl) rfl ?_
  refine x_iconst dX11_init_237 ?_
  refine x_V_V M_X5_fit [vi 2] [] hs rfl dX11_init_238 (lkX11_109 _ rfl) (Nat.le_of_ble_eq_true rfl) rfl rfl (Nat.le_of_ble_eq_true rfl) (Nat.le_of_ble_eq_true rfl) (Nat.le_of_ble_eq_true rfl) (Nat.le_of_ble_eq_true rfl) (c_Gr_fit (Nat.le_refl 80) 2 s) (fun s1 hs1 hs => ?_)
  refine w_aload_n 0 dX11_init_241 rfl rfl ?_
  refine x_getR 11 2 (b := 10) dX11_init_242 (fxX11_28 rfl) rfl rfl (Nat.le_of_ble_eq_true rfl) rfl ?_
  refine x_iconst dX11_init_245 ?_
  refine x_V_V M_X9_begin [vi 2] [] hs rfl dX11_init_246 (lkX11_112 _ rfl) (Nat.le_of_ble_eq_true rfl) rfl rfl (Nat.le_of_ble_eq_true rfl) (Nat.le_of_ble_eq_true rfl) (Nat.le_of_ble_eq_true rfl) (Nat.le_of_ble_eq_true rfl) (c_Po_begin (Nat.le_refl 80) 10 (show 10 ∈ posL by decide) 2 s1) (fun s2 hs2 hs => ?_)
  cases hs
  exact w_return rfl dX11_init_249 rfl (Nat.le_of_ble_eq_true rfl) (Nat.le_of_ble_eq_true rfl) ⟨rfl, rfl⟩
noncomputable def Mo_starts (s : Sg) : Option Sg := bnd (Mo_begins 2 (si s 80 15 (-1))) fun s1 => some s1
theorem mo_full (s : Sg) : hcb (Rbe 80) [(80, 34, 99), (80, 32, 98), (80, 31, 97), (80, 30, 96), (80, 29, 95), (80, 28, 94), (80, 23, 93), (80, 22, 92), (80, 21, 91), (80, 20, 90), (80, 19, 89), (80, 18, 88), (80, 17, 87), (80, 7, 86), (80, 5, 85), (80, 4, 84), (80, 3, 83), (80, 2, 82), (80, 1, 81)] s = hp 100 s := hcb_hp 80 100 _ s (Nat.le_of_ble_eq_true rfl) (by decide +kernel) (by decide +kernel)
set_option maxRecDepth 100000 in
theorem i_80 {C : Cx} (s : Sg) : ∀ o, Mo_starts s = some o → mm C M_X12_init 2 19 6435 81 100 [.ref 80] (hcb (Rbe 80) [] s) (fun v h => v = none ∧ h = hp 100 o) XF := by
  intro o hs
  unfold Mo_starts at hs
  refine mm_of rfl rfl (Nat.le_of_ble_eq_true rfl) ?_
  show ww C M_X12_init 2 19 6435 100 _ XF 81 0 0 0 [(0, .ref 80)] [] (hcb (Rbe 80) [] s)
  refine w_aload_n 0 dX12_init_0 rfl rfl ?_
  refine c_obj dX12_init_1 (obX12_3 rfl) (Nat.le_of_ble_eq_true rfl) (Nat.le_of_ble_eq_true rfl) ?_
  refine w_aload_n 0 dX12_init_4 rfl rfl ?_
  refine x_sipush dX12_init_5 (by decide) ?_
  refine c_newarr (nx' := 82) (k' := 1) (n' := 286) .int 286 rfl (Nat.le_of_ble_eq_true rfl) dX12_init_8 rfl rfl (Or.inl rfl) na_int (Nat.le_of_ble_eq_true rfl) (Nat.le_of_ble_eq_true rfl) rfl rfl rfl ?_
  refine c_putR 12 1 dX12_init_10 (pfX12_9 rfl rfl) rfl rfl (Nat.le_of_ble_eq_true rfl) ?_
  refine w_aload_n 0 dX12_init_13 rfl rfl ?_
  refine x_sipush dX12_init_14 (by decide) ?_
  refine c_newarr (nx' := 83) (k' := 2) (n' := 572) .int 286 rfl (Nat.le_of_ble_eq_true rfl) dX12_init_17 rfl rfl (Or.inl rfl) na_int (Nat.le_of_ble_eq_true rfl) (Nat.le_of_ble_eq_true rfl) rfl rfl rfl ?_
  refine c_putR 12 2 dX12_init_19 (pfX12_13 rfl rfl) rfl rfl (Nat.le_of_ble_eq_true rfl) ?_
  refine w_aload_n 0 dX12_init_22 rfl rfl ?_
  refine x_sipush dX12_init_23 (by decide) ?_
  refine c_newarr (nx' := 84) (k' := 3) (n' := 1144) .int 572 rfl (Nat.le_of_ble_eq_true rfl) dX12_init_26 rfl rfl (Or.inl rfl) na_int (Nat.le_of_ble_eq_true rfl) (Nat.le_of_ble_eq_true rfl) rfl rfl rfl ?_
  refine c_putR 12 3 dX12_init_28 (pfX12_16 rfl rfl) rfl rfl (Nat.le_of_ble_eq_true rfl) ?_
  refine w_aload_n 0 dX12_init_31 rfl rfl ?_
  refine x_iconst dX12_init_32 ?_
  refine c_newarr (nx' := 85) (k' := 4) (n' := 1146) .boolean 2 rfl (Nat.le_of_ble_eq_true rfl) dX12_init_33 rfl rfl (Or.inr (Or.inl rfl)) na_boolean (Nat.le_of_ble_eq_true rfl) (Nat.le_of_ble_eq_true rfl) rfl rfl rfl ?_
  refine c_putR 12 4 dX12_init_35 (pfX12_19 rfl rfl) rfl rfl (Nat.le_of_ble_eq_true rfl) ?_
  refine w_aload_n 0 dX12_init_38 rfl rfl ?_
  refine x_sipush dX12_init_39 (by decide) ?_
  refine c_newarr (nx' := 86) (k' := 5) (n' := 3434) .int 2288 rfl (Nat.le_of_ble_eq_true rfl) dX12_init_42 rfl rfl (Or.inl rfl) na_int (Nat.le_of_ble_eq_true rfl) (Nat.le_of_ble_eq_true rfl) rfl rfl rfl ?_
  refine c_putR 12 5 dX12_init_44 (pfX12_23 rfl rfl) rfl rfl (Nat.le_of_ble_eq_true rfl) ?_
  refine w_aload_n 0 dX12_init_47 rfl rfl ?_
  refine x_sipush dX12_init_48 (by decide) ?_
  refine c_newarr (nx' := 87) (k' := 6) (n' := 3834) .byte 400 rfl (Nat.le_of_ble_eq_true rfl) dX12_init_51 rfl rfl (Or.inr (Or.inr (Or.inr (Or.inl rfl)))) na_byte (Nat.le_of_ble_eq_true rfl) (Nat.le_of_ble_eq_true rfl) rfl rfl rfl ?_
  refine c_putR 12 7 dX12_init_53 (pfX12_26 rfl rfl) rfl rfl (Nat.le_of_ble_eq_true rfl) ?_
  refine w_aload_n 0 dX12_init_56 rfl rfl ?_
  refine x_iconst dX12_init_57 ?_
  refine c_putI 12 15 dX12_init_58 (poX12_30 rfl) rfl rfl (Nat.le_of_ble_eq_true rfl) ?_
  refine w_aload_n 0 dX12_init_61 rfl rfl ?_
  refine x_bipush dX12_init_62 (by decide) ?_
  refine c_newarr (nx' := 88) (k' := 7) (n' := 3915) .int 81 rfl (Nat.le_of_ble_eq_true rfl) dX12_init_64 rfl rfl (Or.inl rfl) na_int (Nat.le_of_ble_eq_true rfl) (Nat.le_of_ble_eq_true rfl) rfl rfl rfl ?_
  refine c_putR 12 17 dX12_init_66 (pfX12_34 rfl rfl) rfl rfl (Nat.le_of_ble_eq_true rfl) ?_
  refine w_aload_n 0 dX12_init_69 rfl rfl ?_
  refine x_sipush dX12_init_70 (by decide) ?_
  refine c_newarr (nx' := 89) (k' := 8) (n' := 4320) .int 405 rfl (Nat.le_of_ble_eq_true rfl) dX12_init_73 rfl rfl (Or.inl rfl) na_int (Nat.le_of_ble_eq_true rfl) (Nat.le_of_ble_eq_true rfl) rfl rfl rfl ?_
  refine c_putR 12 18 dX12_init_75 (pfX12_37 rfl rfl) rfl rfl (Nat.le_of_ble_eq_true rfl) ?_
  refine w_aload_n 0 dX12_init_78 rfl rfl ?_
  refine x_sipush dX12_init_79 (by decide) ?_
  refine c_newarr (nx' := 90) (k' := 9) (n' := 4725) .int 405 rfl (Nat.le_of_ble_eq_true rfl) dX12_init_82 rfl rfl (Or.inl rfl) na_int (Nat.le_of_ble_eq_true rfl) (Nat.le_of_ble_eq_true rfl) rfl rfl rfl ?_
  refine c_putR 12 19 dX12_init_84 (pfX12_40 rfl rfl) rfl rfl (Nat.le_of_ble_eq_true rfl) ?_
  refine w_aload_n 0 dX12_init_87 rfl rfl ?_
  refine x_sipush dX12_init_88 (by decide) ?_
  refine c_newarr (nx' := 91) (k' := 10) (n' := 5130) .int 405 rfl (Nat.le_of_ble_eq_true rfl) dX12_init_91 rfl rfl (Or.inl rfl) na_int (Nat.le_of_ble_eq_true rfl) (Nat.le_of_ble_eq_true rfl) rfl rfl rfl ?_
  refine c_putR 12 20 dX12_init_93 (pfX12_43 rfl rfl) rfl rfl (Nat.le_of_ble_eq_true rfl) ?_
  refine w_aload_n 0 dX12_init_96 rfl rfl ?_
  refine x_sipush dX12_init_97 (by decide) ?_
  refine c_newarr (nx' := 92) (k' := 11) (n' := 5535) .int 405 rfl (Nat.le_of_ble_eq_true rfl) dX12_init_100 rfl rfl (Or.inl rfl) na_int (Nat.le_of_ble_eq_true rfl) (Nat.le_of_ble_eq_true rfl) rfl rfl rfl ?_
  refine c_putR 12 21 dX12_init_102 (pfX12_46 rfl rfl) rfl rfl (Nat.le_of_ble_eq_true rfl) ?_
  refine w_aload_n 0 dX12_init_105 rfl rfl ?_
  refine x_sipush dX12_init_106 (by decide) ?_
  refine c_newarr (nx' := 93) (k' := 12) (n' := 5940) .boolean 405 rfl (Nat.le_of_ble_eq_true rfl) dX12_init_109 rfl rfl (Or.inr (Or.inl rfl)) na_boolean (Nat.le_of_ble_eq_true rfl) (Nat.le_of_ble_eq_true rfl) rfl rfl rfl ?_
  refine c_putR 12 22 dX12_init_111 (pfX12_49 rfl rfl) rfl rfl (Nat.le_of_ble_eq_true rfl) ?_
  refine w_aload_n 0 dX12_init_114 rfl rfl ?_
  refine x_bipush dX12_init_115 (by decide) ?_
  refine c_newarr (nx' := 94) (k' := 13) (n' := 6021) .boolean 81 rfl (Nat.le_of_ble_eq_true rfl) dX12_init_117 rfl rfl (Or.inr (Or.inl rfl)) na_boolean (Nat.le_of_ble_eq_true rfl) (Nat.le_of_ble_eq_true rfl) rfl rfl rfl ?_
  refine c_putR 12 23 dX12_init_119 (pfX12_52 rfl rfl) rfl rfl (Nat.le_of_ble_eq_true rfl) ?_
  refine w_aload_n 0 dX12_init_122 rfl rfl ?_
  refine x_bipush dX12_init_123 (by decide) ?_
  refine c_newarr (nx' := 95) (k' := 14) (n' := 6102) .int 81 rfl (Nat.le_of_ble_eq_true rfl) dX12_init_125 rfl rfl (Or.inl rfl) na_int (Nat.le_of_ble_eq_true rfl) (Nat.le_of_ble_eq_true rfl) rfl rfl rfl ?_
  refine c_putR 12 28 dX12_init_127 (pfX12_55 rfl rfl) rfl rfl (Nat.le_of_ble_eq_true rfl) ?_
  refine w_aload_n 0 dX12_init_130 rfl rfl ?_
  refine x_bipush dX12_init_131 (by decide) ?_
  refine c_newarr (nx' := 96) (k' := 15) (n' := 6183) .int 81 rfl (Nat.le_of_ble_eq_true rfl) dX12_init_133 rfl rfl (Or.inl rfl) na_int (Nat.le_of_ble_eq_true rfl) (Nat.le_of_ble_eq_true rfl) rfl rfl rfl ?_
  refine c_putR 12 29 dX12_init_135 (pfX12_58 rfl rfl) rfl rfl (Nat.le_of_ble_eq_true rfl) ?_
  refine w_aload_n 0 dX12_init_138 rfl rfl ?_
  refine x_bipush dX12_init_139 (by decide) ?_
  refine c_newarr (nx' := 97) (k' := 16) (n' := 6264) .int 81 rfl (Nat.le_of_ble_eq_true rfl) dX12_init_141 rfl rfl (Or.inl rfl) na_int (Nat.le_of_ble_eq_true rfl) (Nat.le_of_ble_eq_true rfl) rfl rfl rfl ?_
  refine c_putR 12 30 dX12_init_143 (pfX12_61 rfl rfl) rfl rfl (Nat.le_of_ble_eq_true rfl) ?_
  refine w_aload_n 0 dX12_init_146 rfl rfl ?_
  refine x_bipush dX12_init_147 (by decide) ?_
  refine c_newarr (nx' := 98) (k' := 17) (n' := 6345) .int 81 rfl (Nat.le_of_ble_eq_true rfl) dX12_init_149 rfl rfl (Or.inl rfl) na_int (Nat.le_of_ble_eq_true rfl) (Nat.le_of_ble_eq_true rfl) rfl rfl rfl ?_
  refine c_putR 12 31 dX12_init_151 (pfX12_64 rfl rfl) rfl rfl (Nat.le_of_ble_eq_true rfl) ?_
  refine w_aload_n 0 dX12_init_154 rfl rfl ?_
  refine x_bipush dX12_init_155 (by decide) ?_
  refine c_newarr (nx' := 99) (k' := 18) (n' := 6426) .int 81 rfl (Nat.le_of_ble_eq_true rfl) dX12_init_157 rfl rfl (Or.inl rfl) na_int (Nat.le_of_ble_eq_true rfl) (Nat.le_of_ble_eq_true rfl) rfl rfl rfl ?_
  refine c_putR 12 32 dX12_init_159 (pfX12_67 rfl rfl) rfl rfl (Nat.le_of_ble_eq_true rfl) ?_
  refine w_aload_n 0 dX12_init_162 rfl rfl ?_
  refine x_bipush dX12_init_163 (by decide) ?_
  refine c_newarr (nx' := 100) (k' := 19) (n' := 6435) .int 9 rfl (Nat.le_of_ble_eq_true rfl) dX12_init_165 rfl rfl (Or.inl rfl) na_int (Nat.le_of_ble_eq_true rfl) (Nat.le_of_ble_eq_true rfl) rfl rfl rfl ?_
  refine c_putR 12 34 dX12_init_167 (pfX12_70 rfl rfl) rfl rfl (Nat.le_of_ble_eq_true rfl) ?_
  show ww C M_X12_init 2 19 6435 100 _ XF 100 19 6435 170 [(0, .ref 80)] [] (hcb (Rbe 80) [(80, 34, 99), (80, 32, 98), (80, 31, 97), (80, 30, 96), (80, 29, 95), (80, 28, 94), (80, 23, 93), (80, 22, 92), (80, 21, 91), (80, 20, 90), (80, 19, 89), (80, 18, 88), (80, 17, 87), (80, 7, 86), (80, 5, 85), (80, 4, 84), (80, 3, 83), (80, 2, 82), (80, 1, 81)] (si s 80 15 (-1)))
  rw [mo_full]
  refine w_aload_n 0 dX12_init_170 rfl rfl ?_
  refine x_iconst dX12_init_171 ?_
  refine x_V_V M_X12_begins [vi 2] [] hs rfl dX12_init_172 (lkX12_73 _ rfl) (Nat.le_of_ble_eq_true rfl) rfl rfl (Nat.le_of_ble_eq_true rfl) (Nat.le_of_ble_eq_true rfl) (Nat.le_of_ble_eq_true rfl) (Nat.le_of_ble_eq_true rfl) (c_Mo_begins (Nat.le_refl 100) 2 (si s 80 15 (-1))) (fun s1 hs1 hs => ?_)
  cases hs
  exact w_return rfl dX12_init_175 rfl (Nat.le_of_ble_eq_true rfl) (Nat.le_of_ble_eq_true rfl) ⟨rfl, rfl⟩

noncomputable def La_run (L : Nat) (s : Sg) : Option (Int × Sg) := bnd (Hx_starts s) fun s1 => bnd (Mo_starts s1) fun s2 => La_law_l28 L 0 s2
theorem hp_102 (s : Sg) : hp 100 s = hp 102 s := by
  unfold hp
  refine Prod.ext rfl (Prod.ext ?_ rfl)
  funext a f
  show (if a < 100 then RT a f else none) = if a < 102 then RT a f else none
  by_cases h1 : a < 100
  · rw [if_pos h1, if_pos (by omega)]
  · rw [if_neg h1]
    by_cases h2 : a < 102
    · rw [if_pos h2]
      have : a = 100 ∨ a = 101 := by omega
      rcases this with rfl | rfl <;> rfl
    · rw [if_neg h2]
set_option maxRecDepth 100000 in
theorem w_law {C : Cx} (hL : xL C ≤ 2048) (s : Sg) : ∀ o, La_run (xL C) s = some o → ww C M_L_law 17 601024 7293034 102 (QI 102 o.2 o.1) XF 0 0 0 0 [(0, .ref 1200)] [] (hp 0 s) := by
  intro o hs
  unfold La_run at hs
  refine bnd_e hs (fun s1 h1 hs => ?_)
  refine bnd_e hs (fun s2 h2 hs => ?_)
  show ww C M_L_law 17 601024 7293034 102 _ XF 0 0 0 0 [(0, .ref 1200)] [] (hcb (Rbe 0) [] s)
  refine c_new (nx' := 1) (k' := 1) (n' := 16) 11 dL_law_0 rfl (nwL_8 rfl) (Nat.le_of_ble_eq_true rfl) (Nat.le_of_ble_eq_true rfl) rfl rfl rfl ?_
  refine w_dup dL_law_3 rfl ?_
  refine c_init M_X11_init [] [.ref 0] rfl (show 1 + 79 = 80 from rfl) (show 16 + 8178 = 8194 from rfl) dL_law_4 (lkL_120 _ rfl) (Nat.le_of_ble_eq_true rfl) (Nat.le_of_ble_eq_true rfl) (Nat.le_of_ble_eq_true rfl) (Nat.le_of_ble_eq_true rfl) (i_0 s s1 h1) ?_
  refine w_astore_n (lv' := [(1, .ref 0), (0, .ref 1200)]) dL_law_7 rfl (Nat.le_of_ble_eq_true rfl) rfl ?_
  refine c_new (nx' := 81) (k' := 81) (n' := 8230) 12 dL_law_8 rfl (nwL_121 rfl) (Nat.le_of_ble_eq_true rfl) (Nat.le_of_ble_eq_true rfl) rfl rfl rfl ?_
  refine w_dup dL_law_11 rfl ?_
  refine c_init M_X12_init [] [.ref 80] rfl (show 81 + 19 = 100 from rfl) (show 8230 + 6435 = 14665 from rfl) dL_law_12 (lkL_123 _ rfl) (Nat.le_of_ble_eq_true rfl) (Nat.le_of_ble_eq_true rfl) (Nat.le_of_ble_eq_true rfl) (Nat.le_of_ble_eq_true rfl) (i_80 s1 s2 h2) ?_
  refine w_astore_n (lv' := [(2, .ref 80), (1, .ref 0), (0, .ref 1200)]) dL_law_15 rfl (Nat.le_of_ble_eq_true rfl) rfl ?_
  refine x_iconst dL_law_16 ?_
  refine c_newarr (nx' := 101) (k' := 101) (n' := 14666) .long 1 rfl (Nat.le_of_ble_eq_true rfl) dL_law_17 rfl rfl (Or.inr (Or.inr (Or.inl rfl))) na_long (Nat.le_of_ble_eq_true rfl) (Nat.le_of_ble_eq_true rfl) rfl rfl rfl ?_
  refine w_astore_n (lv' := [(3, .ref 100), (2, .ref 80), (1, .ref 0), (0, .ref 1200)]) dL_law_19 rfl (Nat.le_of_ble_eq_true rfl) rfl ?_
  refine x_iconst dL_law_20 ?_
  refine c_newarr (nx' := 102) (k' := 102) (n' := 14667) .double 1 rfl (Nat.le_of_ble_eq_true rfl) dL_law_21 rfl rfl (Or.inr (Or.inr (Or.inr (Or.inr rfl)))) na_double (Nat.le_of_ble_eq_true rfl) (Nat.le_of_ble_eq_true rfl) rfl rfl rfl ?_
  refine w_astore (lv' := [(4, .ref 101), (3, .ref 100), (2, .ref 80), (1, .ref 0), (0, .ref 1200)]) dL_law_23 (Nat.le_of_ble_eq_true rfl) rfl ?_
  refine x_iconst dL_law_25 ?_
  refine w_istore (lv' := [(5, vi 0), (4, .ref 101), (3, .ref 100), (2, .ref 80), (1, .ref 0), (0, .ref 1200)]) dL_law_26 (Nat.le_of_ble_eq_true rfl) rfl ?_
  refine w_lv (lv' := [(0, .ref 1200), (1, .ref 0), (2, .ref 80), (3, .ref 100), (4, .ref 101), (5, vi 0)]) [5, 4, 3, 2, 1, 0] rfl ?_
  rw [hp_102]
  refine w_wid (k2 := 1000) (n2 := 100000) (Nat.le_of_ble_eq_true rfl) (Nat.le_of_ble_eq_true rfl) ?_
  exact q_La_law_l28 (Nat.le_refl 102) (Nat.le_refl 102) 0 hL s2 hs

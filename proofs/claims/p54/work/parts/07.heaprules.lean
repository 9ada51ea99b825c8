theorem inws0 : ∀ w ∈ u_ws (cR 0) (cT 0) (cn 0), w ∈ lw_tbl := by decide +kernel
theorem inwg0 : (u_ws (cR 0) (cT 0) (cn 0)).all goodWord = true := by decide +kernel
theorem inws1 : ∀ w ∈ u_ws (cR 1) (cT 1) (cn 1), w ∈ lw_tbl := by decide +kernel
theorem inwg1 : (u_ws (cR 1) (cT 1) (cn 1)).all goodWord = true := by decide +kernel
theorem inws2 : ∀ w ∈ u_ws (cR 2) (cT 2) (cn 2), w ∈ lw_tbl := by decide +kernel
theorem inwg2 : (u_ws (cR 2) (cT 2) (cn 2)).all goodWord = true := by decide +kernel
theorem inws3 : ∀ w ∈ u_ws (cR 3) (cT 3) (cn 3), w ∈ lw_tbl := by decide +kernel
theorem inwg3 : (u_ws (cR 3) (cT 3) (cn 3)).all goodWord = true := by decide +kernel
theorem inws4 : ∀ w ∈ u_ws (cR 4) (cT 4) (cn 4), w ∈ lw_tbl := by decide +kernel
theorem inwg4 : (u_ws (cR 4) (cT 4) (cn 4)).all goodWord = true := by decide +kernel
theorem inws5 : ∀ w ∈ u_ws (cR 5) (cT 5) (cn 5), w ∈ lw_tbl := by decide +kernel
theorem inwg5 : (u_ws (cR 5) (cT 5) (cn 5)).all goodWord = true := by decide +kernel
theorem inws6 : ∀ w ∈ u_ws (cR 6) (cT 6) (cn 6), w ∈ lw_tbl := by decide +kernel
theorem inwg6 : (u_ws (cR 6) (cT 6) (cn 6)).all goodWord = true := by decide +kernel
theorem inws7 : ∀ w ∈ u_ws (cR 7) (cT 7) (cn 7), w ∈ lw_tbl := by decide +kernel
theorem inwg7 : (u_ws (cR 7) (cT 7) (cn 7)).all goodWord = true := by decide +kernel
theorem inws8 : ∀ w ∈ u_ws (cR 8) (cT 8) (cn 8), w ∈ lw_tbl := by decide +kernel
theorem inwg8 : (u_ws (cR 8) (cT 8) (cn 8)).all goodWord = true := by decide +kernel
theorem inws9 : ∀ w ∈ u_ws (cR 9) (cT 9) (cn 9), w ∈ lw_tbl := by decide +kernel
theorem inwg9 : (u_ws (cR 9) (cT 9) (cn 9)).all goodWord = true := by decide +kernel
theorem inws10 : ∀ w ∈ u_ws (cR 10) (cT 10) (cn 10), w ∈ lw_tbl := by decide +kernel
theorem inwg10 : (u_ws (cR 10) (cT 10) (cn 10)).all goodWord = true := by decide +kernel
theorem inws11 : ∀ w ∈ u_ws (cR 11) (cT 11) (cn 11), w ∈ lw_tbl := by decide +kernel
theorem inwg11 : (u_ws (cR 11) (cT 11) (cn 11)).all goodWord = true := by decide +kernel
theorem inws12 : ∀ w ∈ u_ws (cR 12) (cT 12) (cn 12), w ∈ lw_tbl := by decide +kernel
theorem inwg12 : (u_ws (cR 12) (cT 12) (cn 12)).all goodWord = true := by decide +kernel
theorem inws13 : ∀ w ∈ u_ws (cR 13) (cT 13) (cn 13), w ∈ lw_tbl := by decide +kernel
theorem inwg13 : (u_ws (cR 13) (cT 13) (cn 13)).all goodWord = true := by decide +kernel
theorem in_ws : ∀ ci, ci < 14 → ∀ w ∈ u_ws (cR ci) (cT ci) (cn ci), w ∈ lw_all
  | 0, _ => fun w hw => lw_all_mem (inws0 w hw) (List.all_eq_true.mp inwg0 w hw)
  | 1, _ => fun w hw => lw_all_mem (inws1 w hw) (List.all_eq_true.mp inwg1 w hw)
  | 2, _ => fun w hw => lw_all_mem (inws2 w hw) (List.all_eq_true.mp inwg2 w hw)
  | 3, _ => fun w hw => lw_all_mem (inws3 w hw) (List.all_eq_true.mp inwg3 w hw)
  | 4, _ => fun w hw => lw_all_mem (inws4 w hw) (List.all_eq_true.mp inwg4 w hw)
  | 5, _ => fun w hw => lw_all_mem (inws5 w hw) (List.all_eq_true.mp inwg5 w hw)
  | 6, _ => fun w hw => lw_all_mem (inws6 w hw) (List.all_eq_true.mp inwg6 w hw)
  | 7, _ => fun w hw => lw_all_mem (inws7 w hw) (List.all_eq_true.mp inwg7 w hw)
  | 8, _ => fun w hw => lw_all_mem (inws8 w hw) (List.all_eq_true.mp inwg8 w hw)
  | 9, _ => fun w hw => lw_all_mem (inws9 w hw) (List.all_eq_true.mp inwg9 w hw)
  | 10, _ => fun w hw => lw_all_mem (inws10 w hw) (List.all_eq_true.mp inwg10 w hw)
  | 11, _ => fun w hw => lw_all_mem (inws11 w hw) (List.all_eq_true.mp inwg11 w hw)
  | 12, _ => fun w hw => lw_all_mem (inws12 w hw) (List.all_eq_true.mp inwg12 w hw)
  | 13, _ => fun w hw => lw_all_mem (inws13 w hw) (List.all_eq_true.mp inwg13 w hw)
  | (n + 14), h => absurd h (by omega)
theorem cl_ty : ∀ ci, ci < 14 → ∀ k, k < cn ci → parseFieldDescriptor (cT ci k).2.2.1 = some (cty ci k)
  | 0, _ => tyX0_ok
  | 1, _ => tyX1_ok
  | 2, _ => tyX2_ok
  | 3, _ => tyX3_ok
  | 4, _ => tyX4_ok
  | 5, _ => tyX5_ok
  | 6, _ => tyX6_ok
  | 7, _ => tyX7_ok
  | 8, _ => tyX8_ok
  | 9, _ => tyX9_ok
  | 10, _ => tyX10_ok
  | 11, _ => tyX11_ok
  | 12, _ => tyJ0_ok
  | 13, _ => tyJ4_ok
  | (n + 14), h => absurd h (by omega)
theorem cl_nm : ∀ ci, ci < 14 → ∀ a, a < cn ci → ∀ b, b < cn ci → a ≠ b → (cT ci a).2.1 ≠ (cT ci b).2.1
  | 0, _ => nmX0
  | 1, _ => nmX1
  | 2, _ => nmX2
  | 3, _ => nmX3
  | 4, _ => nmX4
  | 5, _ => nmX5
  | 6, _ => nmX6
  | 7, _ => nmX7
  | 8, _ => nmX8
  | 9, _ => nmX9
  | 10, _ => nmX10
  | 11, _ => nmX11
  | 12, _ => nmJ0
  | 13, _ => nmJ4
  | (n + 14), h => absurd h (by omega)
theorem cl_at {ci : Nat} (h : ci < 14) : vwCl[ci]? = some (cR ci, cT ci, cn ci) := by
  unfold cR cT cn
  rw [List.getElem?_eq_getElem (show ci < vwCl.length from h)]
  rfl
theorem shp_cls0 : shL.all (fun x => match x with
  | .inl c => decide (c < 14)
  | .inr _ => true) = true := by decide +kernel
theorem shp_cls {a c : Nat} (h : shp a = some (.inl c)) : c < 14 := by
  have h1 := List.all_eq_true.mp shp_cls0 _ (List.mem_of_getElem? h)
  simpa using h1
theorem shC_cls {C : Cx} {nx : Nat} {h : Hp} {H : Heap} (hP : HPh C nx h H) {a c : Nat} (hs : shC C a = some (.inl c)) : c < 14 := by
  unfold shC at hs
  split at hs
  · exact shp_cls hs
  · exact hP.2.2.2.2.1.2.2 c (List.mem_of_getElem? hs)
theorem hP9 {C : Cx} {nx : Nat} {h : Hp} {H : Heap} (hP : HPh C nx h H) {a : Nat} (ha : a < nx) : a < 1000 := Nat.lt_of_lt_of_le ha (Nat.le_trans hP.2.2.2.2.1.1 hP.2.2.2.2.1.2.1)
theorem HPh_upd {C : Cx} {nx : Nat} {h h' : Hp} {H H1 : Heap} {i : Nat} (hP : HPh C nx h H) (hi : i < nx) (hat : va_at (xD C) vwCl (xB C + i, ce C h' i) H1) (hz : H1.size = H.size) (hq : ∀ q, q ≠ xB C + i → H1[q]? = H[q]?)
    (e1 : ∀ j, j ≠ i → ∀ k, gI h' j k = gI h j k) (e2 : ∀ j, j ≠ i → ∀ k, gR h' j k = gR h j k) (e3 : ∀ j, j ≠ i → ∀ k, gL h' j k = gL h j k) (e4 : ∀ j, j ≠ i → ∀ k, gD h' j k = gD h j k) : HPh C nx h' H1 := by
  obtain ⟨p1, p2, p3, p4, p5, p6⟩ := hP
  have hK : i < KC C := Nat.lt_of_lt_of_le hi p5.1
  have hK2 := p5.2.1
  refine ⟨fun k q hk => ?_, fun j hj k => ?_, by rw [hz]; exact p3, by rw [hz]; exact p4, p5, fun j h1 h2 k => ?_⟩
  · have hl : k < nx := by have := (List.getElem?_eq_some_iff.mp hk).1; rwa [wl_len] at this
    rw [wl_at C nx h' hl] at hk
    cases hk
    by_cases hki : k = i
    · subst hki; exact hat
    · have h0 := p1 k _ (wl_at C nx h hl)
      rw [ce_congr C h h' k (e1 k hki) (e2 k hki) (e3 k hki) (e4 k hki)]
      exact h0.kept (hq _ (fun e => hki (Nat.add_left_cancel e)))
  · rw [e1 j (by omega) k]; exact p2 j hj k
  · rw [e1 j (by omega) k, e2 j (by omega) k, e3 j (by omega) k, e4 j (by omega) k]; exact p6 j h1 h2 k
theorem HPh_len {C : Cx} {nx : Nat} {h : Hp} {H : Heap} (hP : HPh C nx h H) {a : Nat} (ha : a < nx) : a < KC C := Nat.lt_of_lt_of_le ha hP.2.2.2.2.1.1
theorem fv_I {C : Cx} {h : Hp} {i k : Nat} {ty : FieldType} (hty : isI ty = true) : fv C h i k ty = .int (gI h i k) := by
  cases ty <;> first | rfl | cases hty
theorem fv_R {C : Cx} {h : Hp} {i k : Nat} {ty : FieldType} (hty : isR ty = true) : fv C h i k ty = va_rf ((gR h i k).map (ad C)) := by
  cases ty <;> first | rfl | cases hty
theorem fs_at {C : Cx} {h : Hp} {a c f : Nat} (hk : f < cn c) : ((List.range (cn c)).map (fun k => fv C h a k (cty c k)))[f]? = some (fv C h a f (cty c f)) := by
  simp [hk]
section WH
variable {C : Cx} {M : Mk} {d mc ms ne : Nat} {Qr : Option Value → Hp → Prop} {Qx : String → Hp → Prop} {nx k n pc : Nat} {lv lv' : List (Nat × Value)} {st : List Value} {h : Hp}
/-- a field's link -/
def FL (M : Mk) (idx ci f : Nat) : Prop := Cond.fieldLink (mY M).cls idx (cT ci f).1 (cT ci f).2.1 (cT ci f).2.2.1 ∈ lw_all ∧ f < cn ci
def FN (M : Mk) (idx ci f : Nat) : Prop := Cond.fieldLinkNest (mY M).cls idx (cT ci f).1 (cT ci f).2.1 (cT ci f).2.2.1 "HexArbiter" ∈ nw_all ∧ f < cn ci
theorem w_getV (ci f : Nat) {idx a : Nat} {v : Value} (hd : decode (mB M) pc = .ok (.getfield idx, 3)) (hf : FL M idx ci f) (hs : shC C a = some (.inl ci)) (ha : a < nx) (hv : fv C h a f (cty ci f) = up C v)
    (kk : ww C M d mc ms ne Qr Qx nx k n (pc + 3) lv (v :: st) h) : ww C M d mc ms ne Qr Qx nx k n pc lv (.ref a :: st) h := by
  intro p l e s m args below meth c Fin cz hr hx hzz H locs ls hP hS hL
  show W p l e _ s m args below meth c H locs k n Fin (F0 m pc ls (.ref (ad C a) :: st.map (up C)))
  rw [ad_l9 (hP9 hP ha)]
  exact va_get (D := xD C) (cl := vwCl) (ci := ci) (v := up C v) (C := cR ci) (T := cT ci) (N := cn ci) cz.1.1 cz.1.2.1 cz.2.1 (in_ws ci (shC_cls hP hs)) cz.1.2.2.2.2 cz.2.2.2.1.1 hP.1 a (by rw [wl_at C nx h ha, ce_objC C h hs]) (cl_at (shC_cls hP hs)) f hf.2 (cz.2.1 _ hf.1) (fun _ h9 => h9) (by rw [fs_at hf.2, hv]) hd (kk p l e s m args below meth c Fin cz hr hx hzz H locs ls hP hS hL)
theorem w_getVn (ci f : Nat) {idx a : Nat} {v : Value} (hd : decode (mB M) pc = .ok (.getfield idx, 3)) (hf : FN M idx ci f) (hs : shC C a = some (.inl ci)) (ha : a < nx) (hv : fv C h a f (cty ci f) = up C v)
    (kk : ww C M d mc ms ne Qr Qx nx k n (pc + 3) lv (v :: st) h) : ww C M d mc ms ne Qr Qx nx k n pc lv (.ref a :: st) h := by
  intro p l e s m args below meth c Fin cz hr hx hzz H locs ls hP hS hL
  show W p l e _ s m args below meth c H locs k n Fin (F0 m pc ls (.ref (ad C a) :: st.map (up C)))
  rw [ad_l9 (hP9 hP ha)]
  exact va_getN (D := xD C) (cl := vwCl) (ci := ci) (v := up C v) (C := cR ci) (T := cT ci) (N := cn ci) cz.1.1 cz.1.2.1 cz.2.1 (in_ws ci (shC_cls hP hs)) cz.1.2.2.2.2 cz.2.2.2.1.1 hP.1 a (by rw [wl_at C nx h ha, ce_objC C h hs]) (cl_at (shC_cls hP hs)) f hf.2 (va_Nw.use rfl (cz.2.2.2.1.2.1 _ hf.1)) (fun _ h9 => h9) (by rw [fs_at hf.2, hv]) hd (kk p l e s m args below meth c Fin cz hr hx hzz H locs ls hP hS hL)
theorem w_getI (ci f : Nat) {idx a : Nat} (hd : decode (mB M) pc = .ok (.getfield idx, 3)) (hf : FL M idx ci f) (hty : isI (cty ci f) = true) (hs : shC C a = some (.inl ci)) (ha : a < nx)
    (kk : ww C M d mc ms ne Qr Qx nx k n (pc + 3) lv (.int (gI h a f) :: st) h) : ww C M d mc ms ne Qr Qx nx k n pc lv (.ref a :: st) h := w_getV ci f hd hf hs ha (fv_I hty) kk
theorem w_getIn (ci f : Nat) {idx a : Nat} (hd : decode (mB M) pc = .ok (.getfield idx, 3)) (hf : FN M idx ci f) (hty : isI (cty ci f) = true) (hs : shC C a = some (.inl ci)) (ha : a < nx)
    (kk : ww C M d mc ms ne Qr Qx nx k n (pc + 3) lv (.int (gI h a f) :: st) h) : ww C M d mc ms ne Qr Qx nx k n pc lv (.ref a :: st) h := w_getVn ci f hd hf hs ha (fv_I hty) kk
theorem w_getR (ci f : Nat) {idx a b : Nat} (hd : decode (mB M) pc = .ok (.getfield idx, 3)) (hf : FL M idx ci f) (hty : isR (cty ci f) = true) (hs : shC C a = some (.inl ci)) (ha : a < nx) (hb : gR h a f = some b)
    (kk : ww C M d mc ms ne Qr Qx nx k n (pc + 3) lv (.ref b :: st) h) : ww C M d mc ms ne Qr Qx nx k n pc lv (.ref a :: st) h := w_getV ci f hd hf hs ha (by rw [fv_R hty, hb]; rfl) kk
theorem w_getRn (ci f : Nat) {idx a b : Nat} (hd : decode (mB M) pc = .ok (.getfield idx, 3)) (hf : FN M idx ci f) (hty : isR (cty ci f) = true) (hs : shC C a = some (.inl ci)) (ha : a < nx) (hb : gR h a f = some b)
    (kk : ww C M d mc ms ne Qr Qx nx k n (pc + 3) lv (.ref b :: st) h) : ww C M d mc ms ne Qr Qx nx k n pc lv (.ref a :: st) h := w_getVn ci f hd hf hs ha (by rw [fv_R hty, hb]; rfl) kk
theorem w_getL (ci f : Nat) {idx a : Nat} (hd : decode (mB M) pc = .ok (.getfield idx, 3)) (hf : FL M idx ci f) (hty : cty ci f = .long) (hs : shC C a = some (.inl ci)) (ha : a < nx)
    (kk : ww C M d mc ms ne Qr Qx nx k n (pc + 3) lv (.long (gL h a f) :: st) h) : ww C M d mc ms ne Qr Qx nx k n pc lv (.ref a :: st) h := w_getV ci f hd hf hs ha (by rw [hty]; rfl) kk
/-- putfield, whatever the value: h' is h with the field set -/
theorem w_putV (ci f : Nat) {idx a : Nat} {v : Value} {h' : Hp} (hd : decode (mB M) pc = .ok (.putfield idx, 3)) (hs : shC C a = some (.inl ci)) (ha : a < nx)
    (hf : (FL M idx ci f ∧ ((cT ci f).2.2.2 = false ∨ ((cT ci f).2.2.2 = true ∧ (mY M).name = "<init>" ∧ (cT ci f).1 = (mY M).cls))) ∨ (FN M idx ci f ∧ (cT ci f).2.2.2 = false))
    (hn : narrow (cty ci f) (up C v) = up C v) (hfit : fits (cty ci f) (up C v) = true) (hv : fv C h' a f (cty ci f) = up C v) (ho : ∀ j, j ≠ f → fv C h' a j (cty ci j) = fv C h a j (cty ci j))
    (e1 : ∀ j, j ≠ a → ∀ k, gI h' j k = gI h j k) (e2 : ∀ j, j ≠ a → ∀ k, gR h' j k = gR h j k) (e3 : ∀ j, j ≠ a → ∀ k, gL h' j k = gL h j k) (e4 : ∀ j, j ≠ a → ∀ k, gD h' j k = gD h j k)
    (kk : ww C M d mc ms ne Qr Qx nx k n (pc + 3) lv st h') : ww C M d mc ms ne Qr Qx nx k n pc lv (v :: .ref a :: st) h := by
  intro p l e s m args below meth c Fin cz hr hx hzz H locs ls hP hS hL
  show W p l e _ s m args below meth c H locs k n Fin (F0 m pc ls (up C v :: .ref (ad C a) :: st.map (up C)))
  rw [ad_l9 (hP9 hP ha)]
  have hc := shC_cls hP hs
  have hK := cz.2.2.2.1.1
  have hap := va_apart (own := (mY M).cls) cz.2.1 (in_ws ci hc) (cty ci) (cl_ty ci hc) (cl_nm ci hc) hK (cl_at hc)
  have hk : f < cn ci := by
    rcases hf with ⟨h1, -⟩ | ⟨h1, -⟩
    · exact h1.2
    · exact h1.2
  have he : (wl C nx h)[a]? = some (xB C + a, .inr (ci, (List.range (cn ci)).map (fun k => fv C h a k (cty ci k)))) := by rw [wl_at C nx h ha, ce_objC C h hs]
  obtain ⟨r, h1, cell, q1, q2, q3, q4⟩ := hP.1 a _ he
  have hr1 : r = (cR ci, cT ci, cn ci) := Option.some.inj (h1.symm.trans (cl_at hc))
  subst hr1
  obtain ⟨hSl, hfc, kC, hkC, hkind⟩ := hK.1 ci _ (cl_at hc)
  obtain ⟨cf, kf, fi, fd, hi, hsl⟩ := hSl f hk
  have hst := (u_facts hfc hkC (u_lays cz.2.1 (in_ws ci hc) hk) hi).1
  have key : ∀ H' : Heap, H'[xB C + a]? = some (cell.setSlot ((xD C).2 ci f) (up C v)) → H'.size = H.size → (∀ q, q ≠ xB C + a → H'[q]? = H[q]?) → HPh C nx h' H' := by
    intro H' g1 g2 g3
    refine HPh_upd hP ha ?_ g2 g3 e1 e2 e3 e4
    rw [ce_objC C h' hs]
    refine ⟨_, cl_at hc, t_OB.to (V := updV (vp_V ((List.range (cn ci)).map (fun k => fv C h a k (cty ci k)))) f (up C v)) ⟨_, g1, q2, q3, t_set q4 hap hk _⟩ (fun j _ => ?_)⟩
    rw [← fl_set C h h' a ci f (up C v) hk hv ho]
    exact vp_updV_set (by simpa using hk) _ j
  rcases hf with ⟨h1, h2⟩ | ⟨h1, h2⟩
  · rcases h2 with h2 | ⟨h2, h3, h4⟩
    · have hlay := cz.2.1 _ (in_ws ci hc _ (u_in_lay hk))
      unfold u_lay at hlay
      rw [if_neg (by rw [h2]; decide)] at hlay
      have h6 := u_store hfc hkC hkind hlay hi (cl_ty ci hc f hk) hn hfit
      refine W.putK cz.1.1 cz.1.2.1 (f := fd) ⟨cz.1.2.2.2.2, cz.2.1 _ h1.1, ⟨_, _, _, hi⟩, hst⟩ (by rw [q2]; exact h6) q1 q3 (by rw [hsl]; exact k2_hasslot (q4 f hk)) rfl rfl hd fun H' g1 g2 g3 => ?_
      rw [hsl] at g1 ⊢
      exact kk p l e s m args below meth c Fin cz hr hx hzz H' _ ls (key H' g1 g2 g3) (hS.put g2 g3 (Nat.le_add_right _ _)) hL
    · have hlay := cz.2.1 _ (in_ws ci hc _ (u_in_lay hk))
      unfold u_lay at hlay
      rw [if_pos h2] at hlay
      have hcf : m.cls = cf := by
        obtain ⟨_, _, c', _, _, _, -, -, hf', -, -, -, hown2, -⟩ := Cond.laysFinal_spec hlay
        have e9 : c' = cf := by have := hi.symm.trans hf'; simp at this; exact this.1.symm
        rw [h4] at hown2
        rw [← e9]; exact Option.some.inj (cz.1.2.2.2.2.symm.trans hown2)
      have h6 := u_fits hfc hkC hkind (Or.inr hlay) hi (cl_ty ci hc f hk) hn hfit
      refine W.putFinK cz.1.1 cz.1.2.1 cz.1.2.2.2.2 (cz.2.1 _ h1.1) hi hst hcf (by rw [cz.2.2.1.2.1]; exact h3) (by rw [q2]; exact h6) q1 q3 (by rw [hsl]; exact k2_hasslot (q4 f hk)) rfl rfl hd fun H' g1 g2 g3 => ?_
      rw [hsl] at g1 ⊢
      exact kk p l e s m args below meth c Fin cz hr hx hzz H' _ ls (key H' g1 g2 g3) (hS.put g2 g3 (Nat.le_add_right _ _)) hL
  · have hlay := cz.2.1 _ (in_ws ci hc _ (u_in_lay hk))
    unfold u_lay at hlay
    rw [if_neg (by rw [h2]; decide)] at hlay
    have h6 := u_store hfc hkC hkind hlay hi (cl_ty ci hc f hk) hn hfit
    refine va_WputK cz.1.1 cz.1.2.1 (f := fd) cz.1.2.2.2.2 (va_Nw.use rfl (cz.2.2.2.1.2.1 _ h1.1)) hi hst (by rw [q2]; exact h6) q1 q3 (by rw [hsl]; exact k2_hasslot (q4 f hk)) rfl rfl hd fun H' g1 g2 g3 => ?_
    rw [hsl] at g1 ⊢
    exact kk p l e s m args below meth c Fin cz hr hx hzz H' _ ls (key H' g1 g2 g3) (hS.put g2 g3 (Nat.le_add_right _ _)) hL


def putOK (M : Mk) (idx ci f : Nat) : Prop := (FL M idx ci f ∧ ((cT ci f).2.2.2 = false ∨ ((cT ci f).2.2.2 = true ∧ (mY M).name = "<init>" ∧ (cT ci f).1 = (mY M).cls))) ∨ (FN M idx ci f ∧ (cT ci f).2.2.2 = false)
theorem w_putI (ci f : Nat) {idx a : Nat} {x : Int32} (hd : decode (mB M) pc = .ok (.putfield idx, 3)) (hf : putOK M idx ci f) (hty : isI (cty ci f) = true) (hs : shC C a = some (.inl ci)) (ha : a < nx) (hn : narrow (cty ci f) (.int x) = .int x) (hfit : fits (cty ci f) (.int x) = true)
    (kk : ww C M d mc ms ne Qr Qx nx k n (pc + 3) lv st (sI h a f x)) : ww C M d mc ms ne Qr Qx nx k n pc lv (.int x :: .ref a :: st) h := by
  refine w_putV (h' := sI h a f x) ci f hd hs ha hf hn hfit (by rw [fv_I hty, gI_sI, if_pos ⟨rfl, rfl⟩]; rfl) (fun j hj => ?_) (fun j hj k => by rw [gI_sI, if_neg (fun e => hj e.1)]) (fun _ _ _ => rfl) (fun _ _ _ => rfl) (fun _ _ _ => rfl) kk
  unfold fv
  rw [gI_sI, if_neg (fun e => hj e.2)]
  rfl
theorem w_putR (ci f : Nat) {idx a b : Nat} (hd : decode (mB M) pc = .ok (.putfield idx, 3)) (hf : putOK M idx ci f) (hty : isR (cty ci f) = true) (hs : shC C a = some (.inl ci)) (ha : a < nx)
    (kk : ww C M d mc ms ne Qr Qx nx k n (pc + 3) lv st (sR h a f (some b))) : ww C M d mc ms ne Qr Qx nx k n pc lv (.ref b :: .ref a :: st) h := by
  refine w_putV (h' := sR h a f (some b)) ci f hd hs ha hf (by revert hty; cases cty ci f <;> intro hty <;> first | rfl | cases hty) (by revert hty; cases cty ci f <;> intro hty <;> first | rfl | cases hty) (by rw [fv_R hty, gR_sR, if_pos ⟨rfl, rfl⟩]; rfl) (fun j hj => ?_) (fun _ _ _ => rfl) (fun j hj k => by rw [gR_sR, if_neg (fun e => hj e.1)]) (fun _ _ _ => rfl) (fun _ _ _ => rfl) kk
  unfold fv
  rw [gR_sR, if_neg (fun e => hj e.2)]
  rfl
theorem w_putL (ci f : Nat) {idx a : Nat} {x : Int64} (hd : decode (mB M) pc = .ok (.putfield idx, 3)) (hf : putOK M idx ci f) (hty : cty ci f = .long) (hs : shC C a = some (.inl ci)) (ha : a < nx)
    (kk : ww C M d mc ms ne Qr Qx nx k n (pc + 3) lv st (sL h a f x)) : ww C M d mc ms ne Qr Qx nx k n pc lv (.long x :: .ref a :: st) h := by
  refine w_putV (h' := sL h a f x) ci f hd hs ha hf (by rw [hty]; rfl) (by rw [hty]; rfl) (by rw [hty]; show Value.long (gL (sL h a f x) a f) = _; rw [gL_sL, if_pos ⟨rfl, rfl⟩]; rfl) (fun j hj => ?_) (fun _ _ _ => rfl) (fun _ _ _ => rfl) (fun j hj k => by rw [gL_sL, if_neg (fun e => hj e.1)]) (fun _ _ _ => rfl) kk
  unfold fv
  rw [gL_sL, if_neg (fun e => hj e.2)]
  rfl
/-- a row of ints that can be read: a new one, or one of the old ones -/
def isA (C : Cx) (nx a n : Nat) : Prop := (shp a = some (.inr (.int, n)) ∧ a < nx) ∨ (a, n) ∈ roL C
theorem roL_ge {C : Cx} {a n : Nat} (h : (a, n) ∈ roL C) : 1000 ≤ a := by
  simp only [roL, List.mem_cons, Prod.mk.injEq, List.not_mem_nil, or_false] at h
  omega
theorem ad_ge {C : Cx} {i : Nat} (h : 1000 ≤ i) : ad C i = xO C i := by unfold ad; rw [if_neg (by omega)]
theorem w_iald {a m1 : Nat} {i : Int32} (hd : decode (mB M) pc = .ok (.iaload, 1)) (hs : isA C nx a m1) (hi : vp_in i m1)
    (kk : ww C M d mc ms ne Qr Qx nx k n (pc + 1) lv (.int (gI h a i.toNatClampNeg) :: st) h) : ww C M d mc ms ne Qr Qx nx k n pc lv (.int i :: .ref a :: st) h := by
  intro p l e s m args below meth c Fin cz hr hx hzz H locs ls hP hS hL
  show W p l e _ s m args below meth c H locs k n Fin (F0 m pc ls (.int i :: .ref (ad C a) :: st.map (up C)))
  rcases hs with ⟨hs, ha⟩ | ho
  · rw [ad_lt (shp_lt hs)]
    exact va_iald (cl := vwCl) cz.1.1 cz.1.2.1 cz.2.2.2.1.1 hP.1 a 0 (by rw [wl_at C nx h ha, ce_arr C h hs]; rfl) rfl hi hd (kk p l e s m args below meth c Fin cz hr hx hzz H locs ls hP hS hL)
  · have h1000 := roL_ge ho
    rw [ad_ge h1000]
    obtain ⟨cell, g0, g1, g2, g3, g4, g5⟩ := cz.2.2.2.1.2.2.1 _ ho
    have hlt : i.toNatClampNeg < m1 := Nat.not_le.mp fun q => hi (Or.inr q)
    have hH : H[xO C a]? = some cell := by rw [hS.2.1 _ (Array.getElem?_eq_some_iff.mp g1).1 (Nat.not_le.mpr g0)]; exact g1
    have g6 := g5 _ hlt
    rw [← hP.2.1 a h1000] at g6
    exact W.iald (v := .int (gI h a i.toNatClampNeg)) cz.1.1 cz.1.2.1 hH g2 g3 (fun q => hi (q.imp id fun q => Nat.le_trans g4.1 q)) g6 rfl rfl hd (kk p l e s m args below meth c Fin cz hr hx hzz H locs ls hP hS hL)
theorem w_alen {a m1 : Nat} (hd : decode (mB M) pc = .ok (.arraylength, 1)) (hs : isA C nx a m1)
    (kk : ww C M d mc ms ne Qr Qx nx k n (pc + 1) lv (.int (Int32.ofNat m1) :: st) h) : ww C M d mc ms ne Qr Qx nx k n pc lv (.ref a :: st) h := by
  intro p l e s m args below meth c Fin cz hr hx hzz H locs ls hP hS hL
  show W p l e _ s m args below meth c H locs k n Fin (F0 m pc ls (.ref (ad C a) :: st.map (up C)))
  rcases hs with ⟨hs, ha⟩ | ho
  · rw [ad_lt (shp_lt hs)]
    exact va_alen (cl := vwCl) (ty := .int) (x := (m1, ac C h a .int)) cz.1.1 cz.1.2.1 cz.2.2.2.1.1 hP.1 a 0 (by rw [wl_at C nx h ha, ce_arr C h hs]) rfl rfl hd (kk p l e s m args below meth c Fin cz hr hx hzz H locs ls hP hS hL)
  · have h1000 := roL_ge ho
    rw [ad_ge h1000]
    obtain ⟨cell, g0, g1, g2, g3, g4, g5⟩ := cz.2.2.2.1.2.2.1 _ ho
    have hH : H[xO C a]? = some cell := by rw [hS.2.1 _ (Array.getElem?_eq_some_iff.mp g1).1 (Nat.not_le.mpr g0)]; exact g1
    exact W.alen (n := Int32.ofNat m1) cz.1.1 cz.1.2.1 hH g2 g4.2 rfl rfl hd (kk p l e s m args below meth c Fin cz hr hx hzz H locs ls hP hS hL)
/-- the length of a row of references -/
theorem w_alenq {a m1 : Nat} (hd : decode (mB M) pc = .ok (.arraylength, 1)) (hs : shp a = some (.inr (ty_pos, m1))) (ha : a < nx)
    (kk : ww C M d mc ms ne Qr Qx nx k n (pc + 1) lv (.int (Int32.ofNat m1) :: st) h) : ww C M d mc ms ne Qr Qx nx k n pc lv (.ref a :: st) h := by
  intro p l e s m args below meth c Fin cz hr hx hzz H locs ls hP hS hL
  show W p l e _ s m args below meth c H locs k n Fin (F0 m pc ls (.ref (ad C a) :: st.map (up C)))
  rw [ad_lt (shp_lt hs)]
  exact va_alen (cl := vwCl) (ty := ty_pos) (x := (m1, ac C h a ty_pos)) cz.1.1 cz.1.2.1 cz.2.2.2.1.1 hP.1 a 3 (by rw [wl_at C nx h ha, ce_arr C h hs]) rfl rfl hd (kk p l e s m args below meth c Fin cz hr hx hzz H locs ls hP hS hL)
theorem w_bald {a m1 : Nat} {i : Int32} (hd : decode (mB M) pc = .ok (.baload, 1)) (hs : shC C a = some (.inr (.byte, m1))) (ha : a < nx) (hi : vp_in i m1)
    (kk : ww C M d mc ms ne Qr Qx nx k n (pc + 1) lv (.int (gI h a i.toNatClampNeg) :: st) h) : ww C M d mc ms ne Qr Qx nx k n pc lv (.int i :: .ref a :: st) h := by
  intro p l e s m args below meth c Fin cz hr hx hzz H locs ls hP hS hL
  show W p l e _ s m args below meth c H locs k n Fin (F0 m pc ls (.int i :: .ref (ad C a) :: st.map (up C)))
  rw [ad_l9 (hP9 hP ha)]
  exact va_bald (cl := vwCl) cz.1.1 cz.1.2.1 cz.2.2.2.1.1 hP.1 a 2 (by rw [wl_at C nx h ha, ce_arrC C h hs]; rfl) rfl hi hd (kk p l e s m args below meth c Fin cz hr hx hzz H locs ls hP hS hL)
theorem w_zald {a m1 : Nat} {i : Int32} (hd : decode (mB M) pc = .ok (.baload, 1)) (hs : shC C a = some (.inr (.boolean, m1))) (ha : a < nx) (hi : vp_in i m1)
    (kk : ww C M d mc ms ne Qr Qx nx k n (pc + 1) lv (.int (gI h a i.toNatClampNeg) :: st) h) : ww C M d mc ms ne Qr Qx nx k n pc lv (.int i :: .ref a :: st) h := by
  intro p l e s m args below meth c Fin cz hr hx hzz H locs ls hP hS hL
  show W p l e _ s m args below meth c H locs k n Fin (F0 m pc ls (.int i :: .ref (ad C a) :: st.map (up C)))
  rw [ad_l9 (hP9 hP ha)]
  exact va_zald (cl := vwCl) cz.1.1 cz.1.2.1 cz.2.2.2.1.1 hP.1 a 1 (by rw [wl_at C nx h ha, ce_arrC C h hs]; rfl) rfl hi hd (kk p l e s m args below meth c Fin cz hr hx hzz H locs ls hP hS hL)
theorem w_aaldR {a b m1 : Nat} {i : Int32} (hd : decode (mB M) pc = .ok (.aaload, 1)) (hs : shp a = some (.inr (ty_pos, m1))) (ha : a < nx) (hi : vp_in i m1) (hb : gR h a i.toNatClampNeg = some b)
    (kk : ww C M d mc ms ne Qr Qx nx k n (pc + 1) lv (.ref b :: st) h) : ww C M d mc ms ne Qr Qx nx k n pc lv (.int i :: .ref a :: st) h := by
  intro p l e s m args below meth c Fin cz hr hx hzz H locs ls hP hS hL
  show W p l e _ s m args below meth c H locs k n Fin (F0 m pc ls (.int i :: .ref (ad C a) :: st.map (up C)))
  rw [ad_lt (shp_lt hs)]
  refine va_aldq (cl := vwCl) cz.1.1 cz.1.2.1 cz.2.2.2.1.1 hP.1 a 3 (by rw [wl_at C nx h ha, ce_arr C h hs]; rfl) rfl hi hd ?_
  rw [hb]
  exact kk p l e s m args below meth c Fin cz hr hx hzz H locs ls hP hS hL

theorem w_iast {a m1 : Nat} {i : Int32} {x : Int32} (hd : decode (mB M) pc = .ok (.iastore, 1)) (hs : shC C a = some (.inr (.int, m1))) (ha : a < nx) (hi : vp_in i m1)
    (kk : ww C M d mc ms ne Qr Qx nx k n (pc + 1) lv st (sI h a i.toNatClampNeg x)) : ww C M d mc ms ne Qr Qx nx k n pc lv (.int x :: .int i :: .ref a :: st) h := by
  intro p l e s m args below meth c Fin cz hr hx hzz H locs ls hP hS hL
  show W p l e _ s m args below meth c H locs k n Fin (F0 m pc ls (.int x :: .int i :: .ref (ad C a) :: st.map (up C)))
  rw [ad_l9 (hP9 hP ha)]
  have he : (wl C nx h)[a]? = some (xB C + a, .inl (xA C .int, (m1, ac C h a .int))) := by rw [wl_at C nx h ha, ce_arrC C h hs]
  have hc : H[xB C + a]? = some (arrV (xA C .int) m1 (fun j => .int (gI h a j))) := hP.1 a _ he
  refine W.iast cz.1.1 cz.1.2.1 hc ((cz.2.2.2.1.1.2 0 _ rfl).1 m1 _) (fun q => by cases q) (by rw [arrV_size]; exact hi) rfl rfl hd fun H1 e1 z oq => ?_
  refine kk p l e s m args below meth c Fin cz hr hx hzz H1 _ ls (HPh_upd hP ha ?_ z oq (fun j hj k => by rw [gI_sI, if_neg (fun e => hj e.1)]) (fun _ _ _ => rfl) (fun _ _ _ => rfl) (fun _ _ _ => rfl)) (hS.put z oq (Nat.le_add_right _ _)) hL
  rw [ce_arrC C _ hs]
  show H1[xB C + a]? = some (arrV (xA C .int) m1 (fun j => .int (gI (sI h a i.toNatClampNeg x) a j)))
  rw [e1, arrV_store]
  congr 2
  funext q
  rw [gI_sI]
  by_cases hq : q = i.toNatClampNeg
  · subst hq
    simp [updV, vp_nar]
    try rfl
  · simp [updV, hq]
theorem w_zast {a m1 : Nat} {i : Int32} {x : Int32} (hd : decode (mB M) pc = .ok (.bastore, 1)) (hs : shC C a = some (.inr (.boolean, m1))) (ha : a < nx) (hi : vp_in i m1)
    (kk : ww C M d mc ms ne Qr Qx nx k n (pc + 1) lv st (sI h a i.toNatClampNeg (vp_nar .boolean x))) : ww C M d mc ms ne Qr Qx nx k n pc lv (.int x :: .int i :: .ref a :: st) h := by
  intro p l e s m args below meth c Fin cz hr hx hzz H locs ls hP hS hL
  show W p l e _ s m args below meth c H locs k n Fin (F0 m pc ls (.int x :: .int i :: .ref (ad C a) :: st.map (up C)))
  rw [ad_l9 (hP9 hP ha)]
  have he : (wl C nx h)[a]? = some (xB C + a, .inl (xA C .boolean, (m1, ac C h a .boolean))) := by rw [wl_at C nx h ha, ce_arrC C h hs]
  have hc : H[xB C + a]? = some (arrV (xA C .boolean) m1 (fun j => .int (gI h a j))) := hP.1 a _ he
  refine W.zast cz.1.1 cz.1.2.1 hc ((cz.2.2.2.1.1.2 1 _ rfl).1 m1 _) (fun q => by cases q) (by rw [arrV_size]; exact hi) rfl rfl hd fun H1 e1 z oq => ?_
  refine kk p l e s m args below meth c Fin cz hr hx hzz H1 _ ls (HPh_upd hP ha ?_ z oq (fun j hj k => by rw [gI_sI, if_neg (fun e => hj e.1)]) (fun _ _ _ => rfl) (fun _ _ _ => rfl) (fun _ _ _ => rfl)) (hS.put z oq (Nat.le_add_right _ _)) hL
  rw [ce_arrC C _ hs]
  show H1[xB C + a]? = some (arrV (xA C .boolean) m1 (fun j => .int (gI (sI h a i.toNatClampNeg (vp_nar .boolean x)) a j)))
  rw [e1, arrV_store]
  congr 2
  funext q
  rw [gI_sI]
  by_cases hq : q = i.toNatClampNeg
  · subst hq
    simp [updV, vp_nar]
    try rfl
  · simp [updV, hq]
theorem w_bast {a m1 : Nat} {i : Int32} {x : Int32} (hd : decode (mB M) pc = .ok (.bastore, 1)) (hs : shC C a = some (.inr (.byte, m1))) (ha : a < nx) (hi : vp_in i m1)
    (kk : ww C M d mc ms ne Qr Qx nx k n (pc + 1) lv st (sI h a i.toNatClampNeg (vp_nar .byte x))) : ww C M d mc ms ne Qr Qx nx k n pc lv (.int x :: .int i :: .ref a :: st) h := by
  intro p l e s m args below meth c Fin cz hr hx hzz H locs ls hP hS hL
  show W p l e _ s m args below meth c H locs k n Fin (F0 m pc ls (.int x :: .int i :: .ref (ad C a) :: st.map (up C)))
  rw [ad_l9 (hP9 hP ha)]
  have he : (wl C nx h)[a]? = some (xB C + a, .inl (xA C .byte, (m1, ac C h a .byte))) := by rw [wl_at C nx h ha, ce_arrC C h hs]
  have hc : H[xB C + a]? = some (arrV (xA C .byte) m1 (fun j => .int (gI h a j))) := hP.1 a _ he
  refine W.bast cz.1.1 cz.1.2.1 hc ((cz.2.2.2.1.1.2 2 _ rfl).1 m1 _) (fun q => by cases q) (by rw [arrV_size]; exact hi) rfl rfl hd fun H1 e1 z oq => ?_
  refine kk p l e s m args below meth c Fin cz hr hx hzz H1 _ ls (HPh_upd hP ha ?_ z oq (fun j hj k => by rw [gI_sI, if_neg (fun e => hj e.1)]) (fun _ _ _ => rfl) (fun _ _ _ => rfl) (fun _ _ _ => rfl)) (hS.put z oq (Nat.le_add_right _ _)) hL
  rw [ce_arrC C _ hs]
  show H1[xB C + a]? = some (arrV (xA C .byte) m1 (fun j => .int (gI (sI h a i.toNatClampNeg (vp_nar .byte x)) a j)))
  rw [e1, arrV_store]
  congr 2
  funext q
  rw [gI_sI]
  by_cases hq : q = i.toNatClampNeg
  · subst hq
    simp [updV, vp_nar]
    try rfl
  · simp [updV, hq]
end WH

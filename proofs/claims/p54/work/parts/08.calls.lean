theorem goodAll {ws : List Cond} (h : ∀ w ∈ ws, w ∈ lw_all) : GoodIn lw_all ws := fun w hw => ⟨h w hw, good_of_word (lw_all_good (h w hw))⟩
theorem mW_sub {M : Mk} (h : Cond.code (mY M) (mB M) (mL M) (mR M) ∈ lw_all) : ∀ w ∈ mW M, w ∈ lw_all := fun w hw => (List.mem_cons.mp hw).elim (fun e => e ▸ h) id
/-- a call's link and the callee's code -/
def LK0 (M' : Mk) (na : Nat) : Prop := Cond.initialized (mY M').cls ∈ lw_all ∧ Cond.code (mY M') (mB M') (mL M') (mR M') ∈ lw_all ∧ ((mY M').cls ≠ "java/lang/invoke/MethodHandle" ∧ (mY M').cls ≠ "java/lang/invoke/VarHandle" ∧ (parseMethodDescriptor (mY M').desc).map (fun d => d.parameters.length) = some na) ∧ mL M' ≤ 51
def LKV (M M' : Mk) (idx na : Nat) : Prop := LK0 M' na ∧ Cond.methodLink (mY M).cls idx (mY M') ∈ lw_all ∧ Cond.instanceMethod (mY M') ∈ lw_all ∧ Cond.selects (mY M').cls (mY M') (mY M') ∈ lw_all
def LKS (M M' : Mk) (idx na : Nat) : Prop := LK0 M' na ∧ Cond.methodLink (mY M).cls idx (mY M') ∈ lw_all ∧ Cond.static (mY M') ∈ lw_all ∧ (mY M').cls = (mY M).cls
def LKT (M M' : Mk) (idx na : Nat) : Prop := LK0 M' na ∧ Cond.methodLink (mY M).cls idx (mY M') ∈ lw_all ∧ Cond.static (mY M') ∈ lw_all
def LKN (M M' : Mk) (idx na : Nat) : Prop := LK0 M' na ∧ Cond.methodLinkNest (mY M).cls idx (mY M') "HexArbiter" ∈ nw_all ∧ Cond.static (mY M') ∈ lw_all
def LKI (M M' : Mk) (idx na : Nat) : Prop := LK0 M' na ∧ Cond.methodLink (mY M).cls idx (mY M') ∈ lw_all ∧ Cond.instanceMethod (mY M') ∈ lw_all ∧ (mY M').name = "<init>" ∧ mR M' = none
theorem PB_blind {C : Cx} {nx : Nat} {h : Hp} {av : List Value} : FrameBlind (va_Pc av (PB C nx h)) := fun a U g mk q => by
  obtain ⟨q1, q2, q3, q4⟩ := q
  exact ⟨q1, (St.same (u := U) (U := U.calling g mk a) rfl q2 : St C (U.calling g mk a) U.heap), q3, q4⟩
theorem PB_now {C : Cx} {M : Mk} {nx : Nat} {h : Hp} {p : Program} {l : Launch} {s : State} {m : MethodId} {args : Array Value} {meth : Method} {c : Code} {H : Heap} {locs : List Loc} (cz : Cz C M p l s m args meth c) (hP : HPh C nx h H) (hS : va_S (xAl C) s.heap H locs) :
    ∀ U : State, U.heap = H → s.WarmedH U.vm → PB C nx h U := by
  intro U hU hW
  subst hU
  exact ⟨(cz.2.2.2.1.warm hW).kept hS.2.1, hP, Nat.le_trans cz.2.2.2.2 hS.1⟩
theorem up_app (C : Cx) (v : Option Value) (st : List Value) : (v.map (up C)).toList ++ st.map (up C) = (v.toList ++ st).map (up C) := by
  cases v <;> rfl
theorem up_sum (C : Cx) (st : List Value) : ((st.map (up C)).map fun v => v.category).sum = (st.map fun v => v.category).sum := by
  rw [List.map_map]
  congr 1
  exact List.map_congr_left fun v _ => up_cat C v
section WC
variable {C : Cx} {M : Mk} {d mc ms ne : Nat} {Qr : Option Value → Hp → Prop} {Qx : String → Hp → Prop} {nx k n pc : Nat} {lv lv' : List (Nat × Value)} {st : List Value} {h : Hp}
theorem hx_fin {p : Program} {l : Launch} {e : Env} {R : Room} {s : State} {m : MethodId} {args : Array Value} {below : List Frame} {meth : Method} {c : Code} {H : Heap} {locs : List Loc} {cells slots mc' ms' : Nat} {Q : State → Prop} {pc : Nat} {ls : Array Slot} {st0 rest : List Value} {a : Array Value} {ne' : Nat} {Qr' : Option Value → Hp → Prop} {Qx' : String → Hp → Prop}
    (hr : vx_Run p l e R s m args below meth c H locs cells slots mc' ms' (F0 m pc ls st0) rest (QC C ne' Qr' a) (XC C ne' Qx') (xAl C)) (hS : va_S (xAl C) s.heap H locs)
    (kx : ∀ (E : String) (ce : Cell) (q : Addr) (h' : Hp) (H1 : Heap) (locs1 : List Loc), Qx' E h' → HPh C ne' h' H1 → va_S (xAl C) s.heap H1 locs1 → H1[q]? = some ce → ce.vm = .none → s.vm.findClass E = some ce.cls → vx_W p l e R s m args below meth c H1 locs1 (cells + mc') (slots + ms') Q (F0 m pc ls rest) q)
    (kk : ∀ (v : Option Value) (h' : Hp) (H1 : Heap) (locs1 : List Loc), Qr' v h' → HPh C ne' h' H1 → va_S (xAl C) s.heap H1 locs1 → W p l e R s m args below meth c H1 locs1 (cells + mc') (slots + ms') Q (F0 m (pc + 3) ls ((v.map (up C)).toList ++ rest))) :
    W p l e R s m args below meth c H locs cells slots Q (F0 m pc ls st0) := by
  intro T hT X
  rcases hr T hT X with ⟨v, st₀, t, T', L, h0, X', hL, e1, e2, ⟨v', h', hv, hq, hP, hF⟩, st⟩ | ⟨q, st₀, t, T', L, E, ce, h0, X', hL, e1, e2, ⟨h', hq, hP, hF⟩, hce, hcv, hcl, st⟩
  · cases hv
    obtain ⟨k1, k2, k3⟩ := vx_keep h0 e1 hS (fun q _ z => z) (fun q z => z) hL hF
    obtain ⟨t2, a1, b1⟩ := kk v' h' T'.heap (locs ++ L) hq (by rw [e1]; exact hP) k3 T' rfl X'
    exact ⟨t2, st t2 a1, b1⟩
  · obtain ⟨k1, k2, k3⟩ := vx_keep h0 e1 hS (fun q _ z => z) (fun q z => z) hL hF
    obtain ⟨t2, a1, b1⟩ := kx E ce q h' T'.heap (locs ++ L) hq (by rw [e1]; exact hP) k3 (by rw [e1]; exact hce) hcv hcl T' rfl X'
    exact ⟨t2, st.trans a1, b1⟩
/-- what may be done with an exception that a call lets out: nothing comes, or it goes on to the caller -/
def XOK (M : Mk) (Qx' Qx : String → Hp → Prop) (ne' ne : Nat) : Prop := (∀ E h', ¬ Qx' E h') ∨ ((∀ E h', Qx' E h' → Qx E h') ∧ ne' = ne ∧ mH M = [])
theorem XOK.no {M : Mk} {Qx : String → Hp → Prop} {ne' ne : Nat} : XOK M (fun _ _ => False) Qx ne' ne := Or.inl fun _ _ q => q

theorem w_callV (M' : Mk) (As : List Value) {idx d' mc' ms' ne' b ci : Nat} {Qr' : Option Value → Hp → Prop} {Qx' : String → Hp → Prop} (hd : decode (mB M) pc = .ok (.invokevirtual idx, 3)) (hlk : LKV M M' idx As.length) (hb : b < nx) (hs : shC C b = some (.inl ci)) (hci : cR ci = (mY M').cls) (hdd : d' + 1 ≤ d) (hk : k + mc' ≤ mc) (hn : n + ms' ≤ ms) (hw : (st.map fun v => v.category).sum ≤ 8)
    (hm : mm C M' d' mc' ms' nx ne' (.ref b :: As) h Qr' Qx') (hxx : XOK M Qx' Qx ne' ne)
    (kk : ∀ v h', Qr' v h' → ww C M d mc ms ne Qr Qx ne' (k + mc') (n + ms') (pc + 3) lv (v.toList ++ st) h') : ww C M d mc ms ne Qr Qx nx k n pc lv (As.reverse ++ .ref b :: st) h := by
  intro p l e s m args below meth c Fin cz hr hx hzz H locs ls hP hS hL
  have hrm : (rmF d' mc' ms').frames + 1 ≤ (rmF d mc ms).frames ∧ 8 + (mL M' + 11) + (rmF d' mc' ms').locals ≤ (rmF d mc ms).locals := ⟨hdd, by
    have := hlk.1.2.2.2
    show 8 + (mL M' + 11) + 70 * d' ≤ 70 * d
    omega⟩
  have hG : GoodIn lw_all (mW M') := goodAll (mW_sub hlk.1.2.1)
  have hout : ∀ (E : String) (ce : Cell) (q : Addr) (h' : Hp) (H1 : Heap) (locs1 : List Loc), Qx' E h' → HPh C ne' h' H1 → va_S (xAl C) s.heap H1 locs1 → H1[q]? = some ce → ce.vm = .none → s.vm.findClass E = some ce.cls → vx_W p l e (rmF d mc ms) s m args below meth c H1 locs1 (k + mc') (n + ms') Fin (F0 m pc ls (st.map (up C))) q := by
    intro E ce q h' H1 locs1 g1 g2 g3 g4 g5 g6
    rcases hxx with hxx | ⟨f1, f2, f3⟩
    · exact absurd g1 (hxx E h')
    · subst f2
      refine hx E ce q h' H1 locs1 ls _ pc _ _ (f1 _ _ g1) g2 g3 hk hn (fun x hx9 => ?_) g4 g5 g6
      rw [cz.2.2.1.2.2.2, f3] at hx9
      cases hx9
  have hcont : ∀ (v : Option Value) (h' : Hp) (H1 : Heap) (locs1 : List Loc), Qr' v h' → HPh C ne' h' H1 → va_S (xAl C) s.heap H1 locs1 → W p l e (rmF d mc ms) s m args below meth c H1 locs1 (k + mc') (n + ms') Fin (F0 m (pc + 3) ls ((v.map (up C)).toList ++ st.map (up C))) := by
    intro v h' H1 locs1 g1 g2 g3
    rw [up_app]
    exact kk v h' g1 p l e s m args below meth c Fin cz hr hx hzz H1 locs1 ls g2 g3 hL
  have hfix : CallFix p m c (mB M) (mL M) s args lw_all (mY M).cls := ⟨cz.1.1, cz.1.2.1, cz.1.2.2.2.1, cz.1.2.2.2.2, cz.2.1⟩
  have hG2 : GoodIn lw_all (wsV (mY M).cls idx (mY M').cls (mY M') (mW M')) := by
    refine goodAll fun w hw9 => ?_
    simp only [wsV, List.mem_append, List.mem_cons, List.not_mem_nil, or_false] at hw9
    rcases hw9 with (rfl | rfl | rfl | rfl) | hw9
    · exact hlk.2.1
    · exact hlk.2.2.1
    · exact hlk.2.2.2
    · exact hlk.1.1
    · exact mW_sub hlk.1.2.1 w hw9
  have hcw := cwV (ret := mR M') (rm := rmF d' mc' ms') (R := rmF d mc ms) (mc := mc') (ms := ms') (maxL := mL M') (bytes := mB M') As.length cz.2.1 hG2 rfl rfl rfl ⟨rfl, hlk.1.2.2.1⟩ hrm
  refine hx_fin (vx_runV (As := As.map (up C)) (rest := st.map (up C)) hfix (hm l cz.2.2.1.2.2.1) hcw ⟨PB_blind, by
    have h9 := va_recv cz.2.2.2.1.1 hP.1 (cl_at (shC_cls hP hs)) (by rw [wl_at C nx h hb, ce_objC C h hs] : (wl C nx h)[b]? = some (xB C + b, _))
    rw [← hci, show ad C b = xB C + b from ad_l9 (hP9 hP hb)]
    exact h9, fun U hU hW9 => ⟨rfl, PB_now cz hP hS U hU hW9⟩⟩ rfl (List.length_map ..) hL.1 (by show (As.reverse ++ .ref b :: st).map (up C) = _; rw [List.map_append, List.map_reverse]; rfl) (lv_room (by rw [up_sum]; exact hw)) hd ⟨hk, hn⟩) hS hout hcont
theorem w_callS (M' : Mk) (As : List Value) {idx d' mc' ms' ne' : Nat} {Qr' : Option Value → Hp → Prop} {Qx' : String → Hp → Prop} (hd : decode (mB M) pc = .ok (.invokestatic idx, 3)) (hlk : LKS M M' idx As.length) (hdd : d' + 1 ≤ d) (hk : k + mc' ≤ mc) (hn : n + ms' ≤ ms) (hw : (st.map fun v => v.category).sum ≤ 8)
    (hm : mm C M' d' mc' ms' nx ne' (As) h Qr' Qx') (hxx : XOK M Qx' Qx ne' ne)
    (kk : ∀ v h', Qr' v h' → ww C M d mc ms ne Qr Qx ne' (k + mc') (n + ms') (pc + 3) lv (v.toList ++ st) h') : ww C M d mc ms ne Qr Qx nx k n pc lv (As.reverse ++ st) h := by
  intro p l e s m args below meth c Fin cz hr hx hzz H locs ls hP hS hL
  have hrm : (rmF d' mc' ms').frames + 1 ≤ (rmF d mc ms).frames ∧ 8 + (mL M' + 11) + (rmF d' mc' ms').locals ≤ (rmF d mc ms).locals := ⟨hdd, by
    have := hlk.1.2.2.2
    show 8 + (mL M' + 11) + 70 * d' ≤ 70 * d
    omega⟩
  have hG : GoodIn lw_all (mW M') := goodAll (mW_sub hlk.1.2.1)
  have hout : ∀ (E : String) (ce : Cell) (q : Addr) (h' : Hp) (H1 : Heap) (locs1 : List Loc), Qx' E h' → HPh C ne' h' H1 → va_S (xAl C) s.heap H1 locs1 → H1[q]? = some ce → ce.vm = .none → s.vm.findClass E = some ce.cls → vx_W p l e (rmF d mc ms) s m args below meth c H1 locs1 (k + mc') (n + ms') Fin (F0 m pc ls (st.map (up C))) q := by
    intro E ce q h' H1 locs1 g1 g2 g3 g4 g5 g6
    rcases hxx with hxx | ⟨f1, f2, f3⟩
    · exact absurd g1 (hxx E h')
    · subst f2
      refine hx E ce q h' H1 locs1 ls _ pc _ _ (f1 _ _ g1) g2 g3 hk hn (fun x hx9 => ?_) g4 g5 g6
      rw [cz.2.2.1.2.2.2, f3] at hx9
      cases hx9
  have hcont : ∀ (v : Option Value) (h' : Hp) (H1 : Heap) (locs1 : List Loc), Qr' v h' → HPh C ne' h' H1 → va_S (xAl C) s.heap H1 locs1 → W p l e (rmF d mc ms) s m args below meth c H1 locs1 (k + mc') (n + ms') Fin (F0 m (pc + 3) ls ((v.map (up C)).toList ++ st.map (up C))) := by
    intro v h' H1 locs1 g1 g2 g3
    rw [up_app]
    exact kk v h' g1 p l e s m args below meth c Fin cz hr hx hzz H1 locs1 ls g2 g3 hL
  have hfix : CallFix p m c (mB M) (mL M) s args lw_all (mY M).cls := ⟨cz.1.1, cz.1.2.1, cz.1.2.2.2.1, cz.1.2.2.2.2, cz.2.1⟩
  have hG2 : GoodIn lw_all (wsS (mY M).cls idx (mY M') (mW M')) := by
    refine goodAll fun w hw9 => ?_
    simp only [wsS, List.mem_append, List.mem_cons, List.not_mem_nil, or_false] at hw9
    rcases hw9 with (rfl | rfl | rfl) | hw9
    · exact hlk.2.1
    · exact hlk.2.2.1
    · rw [← hlk.2.2.2]; exact hlk.1.1
    · exact mW_sub hlk.1.2.1 w hw9
  have hcw := cwS (ret := mR M') (rm := rmF d' mc' ms') (R := rmF d mc ms) (mc := mc') (ms := ms') (maxL := mL M') (bytes := mB M') As.length cz.2.1 hG2 rfl rfl rfl ⟨hlk.2.2.2, hlk.1.2.2.1⟩ hrm
  refine hx_fin (vx_runS (As := As.map (up C)) (rest := st.map (up C)) hfix (hm l cz.2.2.1.2.2.1) hcw ⟨PB_blind, fun U hU hW9 => ⟨rfl, PB_now cz hP hS U hU hW9⟩⟩ rfl (List.length_map ..) hL.1 (by show (As.reverse ++ st).map (up C) = _; rw [List.map_append, List.map_reverse]) (lv_room (by rw [up_sum]; exact hw)) hd ⟨hk, hn⟩) hS hout hcont
theorem w_callT (M' : Mk) (As : List Value) {idx d' mc' ms' ne' : Nat} {Qr' : Option Value → Hp → Prop} {Qx' : String → Hp → Prop} (hd : decode (mB M) pc = .ok (.invokestatic idx, 3)) (hlk : LKT M M' idx As.length) (hdd : d' + 1 ≤ d) (hk : k + mc' ≤ mc) (hn : n + ms' ≤ ms) (hw : (st.map fun v => v.category).sum ≤ 8)
    (hm : mm C M' d' mc' ms' nx ne' (As) h Qr' Qx') (hxx : XOK M Qx' Qx ne' ne)
    (kk : ∀ v h', Qr' v h' → ww C M d mc ms ne Qr Qx ne' (k + mc') (n + ms') (pc + 3) lv (v.toList ++ st) h') : ww C M d mc ms ne Qr Qx nx k n pc lv (As.reverse ++ st) h := by
  intro p l e s m args below meth c Fin cz hr hx hzz H locs ls hP hS hL
  have hrm : (rmF d' mc' ms').frames + 1 ≤ (rmF d mc ms).frames ∧ 8 + (mL M' + 11) + (rmF d' mc' ms').locals ≤ (rmF d mc ms).locals := ⟨hdd, by
    have := hlk.1.2.2.2
    show 8 + (mL M' + 11) + 70 * d' ≤ 70 * d
    omega⟩
  have hG : GoodIn lw_all (mW M') := goodAll (mW_sub hlk.1.2.1)
  have hout : ∀ (E : String) (ce : Cell) (q : Addr) (h' : Hp) (H1 : Heap) (locs1 : List Loc), Qx' E h' → HPh C ne' h' H1 → va_S (xAl C) s.heap H1 locs1 → H1[q]? = some ce → ce.vm = .none → s.vm.findClass E = some ce.cls → vx_W p l e (rmF d mc ms) s m args below meth c H1 locs1 (k + mc') (n + ms') Fin (F0 m pc ls (st.map (up C))) q := by
    intro E ce q h' H1 locs1 g1 g2 g3 g4 g5 g6
    rcases hxx with hxx | ⟨f1, f2, f3⟩
    · exact absurd g1 (hxx E h')
    · subst f2
      refine hx E ce q h' H1 locs1 ls _ pc _ _ (f1 _ _ g1) g2 g3 hk hn (fun x hx9 => ?_) g4 g5 g6
      rw [cz.2.2.1.2.2.2, f3] at hx9
      cases hx9
  have hcont : ∀ (v : Option Value) (h' : Hp) (H1 : Heap) (locs1 : List Loc), Qr' v h' → HPh C ne' h' H1 → va_S (xAl C) s.heap H1 locs1 → W p l e (rmF d mc ms) s m args below meth c H1 locs1 (k + mc') (n + ms') Fin (F0 m (pc + 3) ls ((v.map (up C)).toList ++ st.map (up C))) := by
    intro v h' H1 locs1 g1 g2 g3
    rw [up_app]
    exact kk v h' g1 p l e s m args below meth c Fin cz hr hx hzz H1 locs1 ls g2 g3 hL
  have hfix : CallFix p m c (mB M) (mL M) s args lw_all (mY M).cls := ⟨cz.1.1, cz.1.2.1, cz.1.2.2.2.1, cz.1.2.2.2.2, cz.2.1⟩
  have hG2 : GoodIn lw_all (va_wsS (mY M).cls idx (mY M') (mW M')) := by
    refine goodAll fun w hw9 => ?_
    simp only [va_wsS, List.mem_append, List.mem_cons, List.not_mem_nil, or_false] at hw9
    rcases hw9 with (rfl | rfl | rfl) | hw9
    · exact hlk.2.1
    · exact hlk.2.2
    · exact hlk.1.1
    · exact mW_sub hlk.1.2.1 w hw9
  have hcw := va_cwS (ret := mR M') (rm := rmF d' mc' ms') (R := rmF d mc ms) (mc := mc') (ms := ms') (maxL := mL M') (bytes := mB M') As.length cz.2.1 hG2 rfl rfl rfl hlk.1.2.2.1 hrm
  refine hx_fin (vx_runS (As := As.map (up C)) (rest := st.map (up C)) hfix (hm l cz.2.2.1.2.2.1) hcw ⟨PB_blind, fun U hU hW9 => ⟨rfl, PB_now cz hP hS U hU hW9⟩⟩ rfl (List.length_map ..) hL.1 (by show (As.reverse ++ st).map (up C) = _; rw [List.map_append, List.map_reverse]) (lv_room (by rw [up_sum]; exact hw)) hd ⟨hk, hn⟩) hS hout hcont
theorem w_callVs (M' : Mk) (As : List Value) {idx d' mc' ms' ne' w : Nat} {Qr' : Option Value → Hp → Prop} {Qx' : String → Hp → Prop} (hd : decode (mB M) pc = .ok (.invokevirtual idx, 3)) (hlk : LKV M M' idx As.length) (hsw : isStr w) (hci : (mY M').cls = "java/lang/String") (hdd : d' + 1 ≤ d) (hk : k + mc' ≤ mc) (hn : n + ms' ≤ ms) (hw : (st.map fun v => v.category).sum ≤ 8)
    (hm : mm C M' d' mc' ms' nx ne' (.ref (2000 + w) :: As) h Qr' Qx') (hxx : XOK M Qx' Qx ne' ne)
    (kk : ∀ v h', Qr' v h' → ww C M d mc ms ne Qr Qx ne' (k + mc') (n + ms') (pc + 3) lv (v.toList ++ st) h') : ww C M d mc ms ne Qr Qx nx k n pc lv (As.reverse ++ .ref (2000 + w) :: st) h := by
  intro p l e s m args below meth c Fin cz hr hx hzz H locs ls hP hS hL
  have hrm : (rmF d' mc' ms').frames + 1 ≤ (rmF d mc ms).frames ∧ 8 + (mL M' + 11) + (rmF d' mc' ms').locals ≤ (rmF d mc ms).locals := ⟨hdd, by
    have := hlk.1.2.2.2
    show 8 + (mL M' + 11) + 70 * d' ≤ 70 * d
    omega⟩
  have hG : GoodIn lw_all (mW M') := goodAll (mW_sub hlk.1.2.1)
  have hout : ∀ (E : String) (ce : Cell) (q : Addr) (h' : Hp) (H1 : Heap) (locs1 : List Loc), Qx' E h' → HPh C ne' h' H1 → va_S (xAl C) s.heap H1 locs1 → H1[q]? = some ce → ce.vm = .none → s.vm.findClass E = some ce.cls → vx_W p l e (rmF d mc ms) s m args below meth c H1 locs1 (k + mc') (n + ms') Fin (F0 m pc ls (st.map (up C))) q := by
    intro E ce q h' H1 locs1 g1 g2 g3 g4 g5 g6
    rcases hxx with hxx | ⟨f1, f2, f3⟩
    · exact absurd g1 (hxx E h')
    · subst f2
      refine hx E ce q h' H1 locs1 ls _ pc _ _ (f1 _ _ g1) g2 g3 hk hn (fun x hx9 => ?_) g4 g5 g6
      rw [cz.2.2.1.2.2.2, f3] at hx9
      cases hx9
  have hcont : ∀ (v : Option Value) (h' : Hp) (H1 : Heap) (locs1 : List Loc), Qr' v h' → HPh C ne' h' H1 → va_S (xAl C) s.heap H1 locs1 → W p l e (rmF d mc ms) s m args below meth c H1 locs1 (k + mc') (n + ms') Fin (F0 m (pc + 3) ls ((v.map (up C)).toList ++ st.map (up C))) := by
    intro v h' H1 locs1 g1 g2 g3
    rw [up_app]
    exact kk v h' g1 p l e s m args below meth c Fin cz hr hx hzz H1 locs1 ls g2 g3 hL
  have hfix : CallFix p m c (mB M) (mL M) s args lw_all (mY M).cls := ⟨cz.1.1, cz.1.2.1, cz.1.2.2.2.1, cz.1.2.2.2.2, cz.2.1⟩
  have hG2 : GoodIn lw_all (wsV (mY M).cls idx (mY M').cls (mY M') (mW M')) := by
    refine goodAll fun w hw9 => ?_
    simp only [wsV, List.mem_append, List.mem_cons, List.not_mem_nil, or_false] at hw9
    rcases hw9 with (rfl | rfl | rfl | rfl) | hw9
    · exact hlk.2.1
    · exact hlk.2.2.1
    · exact hlk.2.2.2
    · exact hlk.1.1
    · exact mW_sub hlk.1.2.1 w hw9
  have hcw := cwV (ret := mR M') (rm := rmF d' mc' ms') (R := rmF d mc ms) (mc := mc') (ms := ms') (maxL := mL M') (bytes := mB M') As.length cz.2.1 hG2 rfl rfl rfl ⟨rfl, hlk.1.2.2.1⟩ hrm
  refine hx_fin (vx_runV (As := As.map (up C)) (rest := st.map (up C)) hfix (hm l cz.2.2.1.2.2.1) hcw ⟨PB_blind, by
    obtain ⟨cell, h1, h2, h3, -⟩ := (cz.2.2.2.1.2.2.2.2.2.2.1 w hsw).1.kept hS.2.1
    rw [hci, show ad C (2000 + w) = xO C (2000 + w) from ad_ge (by omega)]
    exact ⟨cell, h1, h2, h3⟩, fun U hU hW9 => ⟨rfl, PB_now cz hP hS U hU hW9⟩⟩ rfl (List.length_map ..) hL.1 (by show (As.reverse ++ .ref (2000 + w) :: st).map (up C) = _; rw [List.map_append, List.map_reverse]; rfl) (lv_room (by rw [up_sum]; exact hw)) hd ⟨hk, hn⟩) hS hout hcont
theorem w_callN (M' : Mk) (As : List Value) {idx d' mc' ms' ne' : Nat} {Qr' : Option Value → Hp → Prop} {Qx' : String → Hp → Prop} (hd : decode (mB M) pc = .ok (.invokestatic idx, 3)) (hlk : LKN M M' idx As.length) (hdd : d' + 1 ≤ d) (hk : k + mc' ≤ mc) (hn : n + ms' ≤ ms) (hw : (st.map fun v => v.category).sum ≤ 8)
    (hm : mm C M' d' mc' ms' nx ne' (As) h Qr' Qx') (hxx : XOK M Qx' Qx ne' ne)
    (kk : ∀ v h', Qr' v h' → ww C M d mc ms ne Qr Qx ne' (k + mc') (n + ms') (pc + 3) lv (v.toList ++ st) h') : ww C M d mc ms ne Qr Qx nx k n pc lv (As.reverse ++ st) h := by
  intro p l e s m args below meth c Fin cz hr hx hzz H locs ls hP hS hL
  have hrm : (rmF d' mc' ms').frames + 1 ≤ (rmF d mc ms).frames ∧ 8 + (mL M' + 11) + (rmF d' mc' ms').locals ≤ (rmF d mc ms).locals := ⟨hdd, by
    have := hlk.1.2.2.2
    show 8 + (mL M' + 11) + 70 * d' ≤ 70 * d
    omega⟩
  have hG : GoodIn lw_all (mW M') := goodAll (mW_sub hlk.1.2.1)
  have hout : ∀ (E : String) (ce : Cell) (q : Addr) (h' : Hp) (H1 : Heap) (locs1 : List Loc), Qx' E h' → HPh C ne' h' H1 → va_S (xAl C) s.heap H1 locs1 → H1[q]? = some ce → ce.vm = .none → s.vm.findClass E = some ce.cls → vx_W p l e (rmF d mc ms) s m args below meth c H1 locs1 (k + mc') (n + ms') Fin (F0 m pc ls (st.map (up C))) q := by
    intro E ce q h' H1 locs1 g1 g2 g3 g4 g5 g6
    rcases hxx with hxx | ⟨f1, f2, f3⟩
    · exact absurd g1 (hxx E h')
    · subst f2
      refine hx E ce q h' H1 locs1 ls _ pc _ _ (f1 _ _ g1) g2 g3 hk hn (fun x hx9 => ?_) g4 g5 g6
      rw [cz.2.2.1.2.2.2, f3] at hx9
      cases hx9
  have hcont : ∀ (v : Option Value) (h' : Hp) (H1 : Heap) (locs1 : List Loc), Qr' v h' → HPh C ne' h' H1 → va_S (xAl C) s.heap H1 locs1 → W p l e (rmF d mc ms) s m args below meth c H1 locs1 (k + mc') (n + ms') Fin (F0 m (pc + 3) ls ((v.map (up C)).toList ++ st.map (up C))) := by
    intro v h' H1 locs1 g1 g2 g3
    rw [up_app]
    exact kk v h' g1 p l e s m args below meth c Fin cz hr hx hzz H1 locs1 ls g2 g3 hL
  have hfix : CallFix p m c (mB M) (mL M) s args lw_all (mY M).cls := ⟨cz.1.1, cz.1.2.1, cz.1.2.2.2.1, cz.1.2.2.2.2, cz.2.1⟩
  have hcw : va_CN (rmF d mc ms) s args (mY M).cls idx (mY M') "HexArbiter" (mB M') (mL M') (mR M') (mW M') (rmF d' mc' ms') mc' ms' As.length ∧ (Cond.static (mY M')).before args s = true ∧ True :=
    ⟨va_cnB As.length cz.2.1 hG rfl rfl rfl (cz.2.2.2.1.2.1 _ hlk.2.1) (cz.2.1 _ hlk.1.1) hlk.1.2.2.1 hrm, cz.2.1 _ hlk.2.2, trivial⟩
  refine hx_fin (vx_runSN (As := As.map (up C)) (rest := st.map (up C)) hfix (hm l cz.2.2.1.2.2.1) hcw ⟨PB_blind, fun U hU hW9 => ⟨rfl, PB_now cz hP hS U hU hW9⟩⟩ rfl (List.length_map ..) hL.1 (by show (As.reverse ++ st).map (up C) = _; rw [List.map_append, List.map_reverse]) (lv_room (by rw [up_sum]; exact hw)) hd ⟨hk, hn⟩) hS hout hcont
theorem w_callI (M' : Mk) (As : List Value) {idx d' mc' ms' ne' b : Nat} {Qr' : Option Value → Hp → Prop} {Qx' : String → Hp → Prop} (hd : decode (mB M) pc = .ok (.invokespecial idx, 3)) (hlk : LKI M M' idx As.length) (hdd : d' + 1 ≤ d) (hk : k + mc' ≤ mc) (hn : n + ms' ≤ ms) (hw : (st.map fun v => v.category).sum ≤ 8)
    (hm : mm C M' d' mc' ms' nx ne' (.ref b :: As) h Qr' Qx') (hxx : XOK M Qx' Qx ne' ne)
    (kk : ∀ v h', Qr' v h' → ww C M d mc ms ne Qr Qx ne' (k + mc') (n + ms') (pc + 3) lv (v.toList ++ st) h') : ww C M d mc ms ne Qr Qx nx k n pc lv (As.reverse ++ .ref b :: st) h := by
  intro p l e s m args below meth c Fin cz hr hx hzz H locs ls hP hS hL
  have hrm : (rmF d' mc' ms').frames + 1 ≤ (rmF d mc ms).frames ∧ 8 + (mL M' + 11) + (rmF d' mc' ms').locals ≤ (rmF d mc ms).locals := ⟨hdd, by
    have := hlk.1.2.2.2
    show 8 + (mL M' + 11) + 70 * d' ≤ 70 * d
    omega⟩
  have hG : GoodIn lw_all (mW M') := goodAll (mW_sub hlk.1.2.1)
  have hout : ∀ (E : String) (ce : Cell) (q : Addr) (h' : Hp) (H1 : Heap) (locs1 : List Loc), Qx' E h' → HPh C ne' h' H1 → va_S (xAl C) s.heap H1 locs1 → H1[q]? = some ce → ce.vm = .none → s.vm.findClass E = some ce.cls → vx_W p l e (rmF d mc ms) s m args below meth c H1 locs1 (k + mc') (n + ms') Fin (F0 m pc ls (st.map (up C))) q := by
    intro E ce q h' H1 locs1 g1 g2 g3 g4 g5 g6
    rcases hxx with hxx | ⟨f1, f2, f3⟩
    · exact absurd g1 (hxx E h')
    · subst f2
      refine hx E ce q h' H1 locs1 ls _ pc _ _ (f1 _ _ g1) g2 g3 hk hn (fun x hx9 => ?_) g4 g5 g6
      rw [cz.2.2.1.2.2.2, f3] at hx9
      cases hx9
  have hcont : ∀ (v : Option Value) (h' : Hp) (H1 : Heap) (locs1 : List Loc), Qr' v h' → HPh C ne' h' H1 → va_S (xAl C) s.heap H1 locs1 → W p l e (rmF d mc ms) s m args below meth c H1 locs1 (k + mc') (n + ms') Fin (F0 m (pc + 3) ls ((v.map (up C)).toList ++ st.map (up C))) := by
    intro v h' H1 locs1 g1 g2 g3
    rw [up_app]
    exact kk v h' g1 p l e s m args below meth c Fin cz hr hx hzz H1 locs1 ls g2 g3 hL
  have hfix : CallFix p m c (mB M) (mL M) s args lw_all (mY M).cls := ⟨cz.1.1, cz.1.2.1, cz.1.2.2.2.1, cz.1.2.2.2.2, cz.2.1⟩
  have hcode9 : mW M' = Cond.code (mY M') (mB M') (mL M') none :: lw_all := by rw [← hlk.2.2.2.2]; rfl
  have hcw := cwI (rm := rmF d' mc' ms') (R := rmF d mc ms) (mc := mc') (ms := ms') (maxL := mL M') (bytes := mB M') As.length cz.2.1 hG hcode9 rfl rfl (cz.2.1 _ hlk.1.1) (cz.2.1 _ hlk.2.1) (cz.2.1 _ hlk.2.2.1) hlk.2.2.2.1 hlk.1.2.2.1 hrm
  refine hx_fin (vx_runI (As := As.map (up C)) (rest := st.map (up C)) hfix (hm l cz.2.2.1.2.2.1) hcw ⟨PB_blind, fun U hU hW9 => ⟨rfl, PB_now cz hP hS U hU hW9⟩⟩ rfl (List.length_map ..) hL.1 (by show (As.reverse ++ .ref b :: st).map (up C) = _; rw [List.map_append, List.map_reverse]; rfl) (lv_room (by rw [up_sum]; exact hw)) hd ⟨hk, hn⟩) hS hout hcont
theorem lm_args (C : Cx) : ∀ (i : Nat) (vs : List Value), lv_args i (vs.map (up C)) = lm C (lv_args i vs)
  | _, [] => rfl
  | i, v :: vs => by
    simp only [List.map_cons, lv_args, up_cat, lm_args C _ vs]
    rfl
/-- a method's contract out of a walk of its body -/
theorem mm_of {args : List Value} (hy : plainName (mY M).cls = true) (hh : mH M = []) (hlen : (args.map fun v => v.category).sum ≤ mL M)
    (kk : ww C M d mc ms ne Qr Qx nx 0 0 0 (lv_args 0 args) [] h) : mm C M d mc ms nx ne args h Qr Qx := by
  intro l hl
  have hlen2 : (lg_sl (args.map (up C))).length ≤ mL M := by
    refine Nat.le_trans (Nat.le_of_eq ?_) hlen
    clear hlen kk
    induction args with
    | nil => rfl
    | cons a t ih =>
      simp only [List.map_cons, List.sum_cons, lg_sl, List.flatMap_cons, List.length_append, up_cat] at ih ⊢
      rw [ih]
      rcases lv_cat a with h | h <;> simp [h]
  refine vx_ofW (cc := mB M) (maxL := mL M) (ret := mR M) hy rfl ?_
  intro p e s m args' below meth c s₁ B hml ht hv
  obtain ⟨rfl, hSt, hP, hB⟩ := hv
  have hts := atoms_spec (ws := mW M) B.pre
  have hlocks := B.notSynchronized
  have htab : c.exceptionTable.toList = tableOf (mH M) := by
    rw [hh]
    exact List.eq_nil_iff_forall_not_mem.mpr fun x hx => ht x hx
  have cz : Cz C M p l s m (args.map (up C)).toArray meth c := ⟨⟨B.exec, B.bytes, B.returns, hml, findClass_of_methodNamed B.named⟩, fun w hw => hts w (List.mem_cons_of_mem _ hw), ⟨hlocks, (name_of_methodNamed B.named B.method).1, hl, htab⟩, hSt, hB⟩
  have hL := lv_entry (args.map (up C)) hlen2
  rw [lg_entry_eq]
  rw [lm_args] at hL
  refine kk p l e s m _ below meth c _ cz ?_ ?_ (fun E ce q h' U locs k' n' hq hP hF hrun hend hce hv hcl hW hsame hfree hk hn => ⟨.threw q, hrun, hend, Or.inr ⟨q, rfl, E, ce, locs, ⟨h', hq, hP, hF⟩, hce, hv, hcl, hW, hsame.mono hk hn, hfree⟩⟩) s.heap [] _ hP va_S.rf hL
  · intro v h' H locs ls pc k' n' i hq hP' hS' hk' hn' hdg hrt
    refine vx_ret (W.widen hk' hn' ?_)
    have hret : ∀ t : State, t.heap = H → s.WarmedH t.vm → QC C ne Qr (args.map (up C)).toArray s (.returned (v.map (up C))) t := fun t e1 _ => ⟨v, h', rfl, hq, by rw [e1]; exact hP', hS'.F e1⟩
    rcases hrt with ⟨x, rfl, rfl, ty, e1, e2⟩ | ⟨rfl, rfl, e1⟩ | ⟨a, rfl, rfl, ty, e1, e2⟩ | ⟨rfl, rfl, ty, e1, e2⟩ | ⟨x, rfl, rfl, e1⟩ | ⟨x, rfl, rfl, e1⟩
    · exact W.zret B.exec rfl (by rw [B.returns, e1]) e2 hret hS'.2.2 hdg
    · exact W.vret B.exec rfl (by rw [B.returns, e1]) hret hS'.2.2 hdg
    · exact W.aret B.exec rfl (by rw [B.returns, e1]) (by revert e2; cases ty <;> intro e2 <;> first | exact Or.inl ⟨_, rfl⟩ | exact Or.inr ⟨_, rfl⟩ | cases e2) (Or.inr ⟨_, rfl⟩) hret hS'.2.2 hdg
    · exact W.aret B.exec rfl (by rw [B.returns, e1]) (by revert e2; cases ty <;> intro e2 <;> first | exact Or.inl ⟨_, rfl⟩ | exact Or.inr ⟨_, rfl⟩ | cases e2) (Or.inl rfl) hret hS'.2.2 hdg
    · exact W.fret B.exec rfl (by rw [B.returns, e1]) hret hS'.2.2 hdg
    · exact W.lret B.exec rfl (by rw [B.returns, e1]) hret hS'.2.2 hdg
  · intro E ce q h' H locs ls rest pc k' n' hq hP' hS' hk' hn' hcov hce hcv hcl
    exact vx_out hcov hlocks hce hcv hcl (fun t e1 _ => ⟨h', hq, by rw [e1]; exact hP', hS'.F e1⟩) hS'.2.2 hk' hn'

end WC

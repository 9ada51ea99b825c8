/-! ===== methods with handlers ===== -/
def mWH (M : Mk) : List Cond := .codeWith (mY M) (mB M) (mL M) (mR M) (mH M) :: lw_all
/-- the contract of a method with handlers -/
def mmH (C : Cx) (M : Mk) (d mc ms nx ne : Nat) (args : List Value) (h : Hp) (Qr : Option Value → Hp → Prop) (Qx : String → Hp → Prop) : Prop :=
  ∀ l : Launch, l.stackTraces = false → vx_Met l (mY M) (mWH M) (rmF d mc ms) (va_Pc (args.map (up C)) (PB C nx h)) (QC C ne Qr) (XC C ne Qx) mc ms (xAl C)
def LK0H (M' : Mk) (na : Nat) : Prop := Cond.initialized (mY M').cls ∈ lw_all ∧ Cond.codeWith (mY M') (mB M') (mL M') (mR M') (mH M') ∈ lw_all ∧ ((mY M').cls ≠ "java/lang/invoke/MethodHandle" ∧ (mY M').cls ≠ "java/lang/invoke/VarHandle" ∧ (parseMethodDescriptor (mY M').desc).map (fun d => d.parameters.length) = some na) ∧ mL M' ≤ 51
def LKH (M M' : Mk) (idx na : Nat) : Prop := LK0H M' na ∧ Cond.methodLink (mY M).cls idx (mY M') ∈ lw_all ∧ Cond.static (mY M') ∈ lw_all
theorem mWH_sub {M : Mk} (h : Cond.codeWith (mY M) (mB M) (mL M) (mR M) (mH M) ∈ lw_all) : ∀ w ∈ mWH M, w ∈ lw_all := fun w hw => (List.mem_cons.mp hw).elim (fun e => e ▸ h) id
theorem hcat_e {α : Type} {m : Option ((Nat ⊕ α) × Sg)} {cI cX : Int} {f : α → Sg → Option (Int × Sg)} {o : Int × Sg} {G : Prop} (hs : hcat m cI cX f = some o) (k : ∀ a s, m = some (.inr a, s) → f a s = some o → G)
    (kI : ∀ s, m = some (.inl 0, s) → cI ≠ 0 → o = (cI, s) → G) (kX : ∀ e s, m = some (.inl (e + 1), s) → cX ≠ 0 → o = (cX, s) → G) : G := by
  cases m with
  | none => cases hs
  | some r =>
    obtain ⟨r1, s⟩ := r
    cases r1 with
    | inr y => exact k y s rfl hs
    | inl e =>
      have hs2 : (if e = 0 then (if cI = 0 then none else some (cI, s)) else (if cX = 0 then none else some (cX, s))) = some o := hs
      cases e with
      | zero =>
        rw [if_pos rfl] at hs2
        by_cases hc : cI = 0
        · rw [if_pos hc] at hs2; cases hs2
        · rw [if_neg hc] at hs2; cases hs2
          exact kI s rfl hc rfl
      | succ e =>
        rw [if_neg (Nat.succ_ne_zero e)] at hs2
        by_cases hc : cX = 0
        · rw [if_pos hc] at hs2; cases hs2
        · rw [if_neg hc] at hs2; cases hs2
          exact kX e s rfl hc rfl
/-- an exception that the method's own handler takes: the code that comes back -/
def hndl (M : Mk) (pc : Nat) (E : String) (v : Int) : Prop := ∃ (pre : List ExceptionTableEntry) (x : ExceptionTableEntry) (suf : List ExceptionTableEntry), tableOf (mH M) = pre ++ x :: suf ∧
  (∀ z ∈ pre, z.catchType ≠ 0 ∧ ∃ nm, Cond.classLink (mY M).cls z.catchType nm ∈ lw_all ∧ ((E = "java/lang/IllegalArgumentException" ∧ nm = "java/lang/IndexOutOfBoundsException") ∨ (E = "java/lang/IndexOutOfBoundsException" ∧ nm = "java/lang/IllegalArgumentException"))) ∧
  covers x pc = true ∧ x.catchType ≠ 0 ∧ Cond.classLink (mY M).cls x.catchType E ∈ lw_all ∧ Cond.castable E E ∈ fw_all ∧
  ((∃ z : Fin 4, decode (mB M) x.handlerPc = .ok (.astore_n z, 1) ∧ (z : Nat) < mL M ∧ decode (mB M) (x.handlerPc + 1) = .ok (.iconst v, 1) ∧ decode (mB M) (x.handlerPc + 1 + 1) = .ok (.ireturn, 1)) ∨
   (∃ i : Nat, decode (mB M) x.handlerPc = .ok (.astore i, 2) ∧ i < mL M ∧ decode (mB M) (x.handlerPc + 2) = .ok (.iconst v, 1) ∧ decode (mB M) (x.handlerPc + 2 + 1) = .ok (.ireturn, 1)))
section HX
variable {C : Cx} {M : Mk} {d mc ms ne : Nat} {Qr : Option Value → Hp → Prop} {Qx : String → Hp → Prop} {nx k n pc : Nat} {lv lv' : List (Nat × Value)} {st stk : List Value} {h : Hp} {s : Sg} {α β : Type}
theorem hndl_W {p : Program} {l : Launch} {e : Env} {s : State} {m : MethodId} {args : Array Value} {below : List Frame} {meth : Method} {c : Code} {Fin : State → Prop} (cz : Cz C M p l s m args meth c)
    (hr : ∀ (v : Option Value) (h' : Hp) (H : Heap) (locs : List Loc) (ls : Array Slot) (pc k' n' : Nat) (i : Instr), Qr v h' → HPh C ne h' H → va_S (xAl C) s.heap H locs → k' ≤ mc → n' ≤ ms → decode c.code pc = .ok (i, 1) → rtOK (mR M) v i → W p l e (rmF d mc ms) s m args below meth c H locs k' n' Fin (F0 m pc ls ((v.map (up C)).toList)))
    {E : String} {v : Int} (hh : hndl M pc E v) (hret : mR M = some .int) {h' : Hp} {H : Heap} {locs : List Loc} {ls : Array Slot} {rest : List Value} {q : Addr} {ce : Cell} (hq : Qr (some (vi v)) h') (hP : HPh C ne h' H) (hS : va_S (xAl C) s.heap H locs) (hk : k ≤ mc) (hn : n ≤ ms) (hce : H[q]? = some ce) (hcv : ce.vm = .none) (hcl : s.vm.findClass E = some ce.cls) (hL : lv_has ls (mL M) (lm C lv)) :
    vx_W p l e (rmF d mc ms) s m args below meth c H locs k n Fin (F0 m pc ls rest) q := by
  obtain ⟨pre, x, suf, h1, h2, h3, h4, h5, h6, h7⟩ := hh
  have hcast : (Cond.castable E E).before args s = true := va_tabs (fw_2 h6).2 rfl (cz.2.2.2.1.2.2.2.2.2.1.1.1 _ h6)
  refine vx_catch cz.1.2.2.2.2 pre x suf (cz.2.2.1.2.2.2.trans h1) (fun z hz => ?_) h3 h4 (cz.2.1 _ h5) hcast hce hcv hcl ?_
  · obtain ⟨g1, nm, g2, g3⟩ := h2 z hz
    refine Or.inr ⟨g1, nm, cz.2.1 _ g2, ?_⟩
    rcases g3 with ⟨rfl, rfl⟩ | ⟨rfl, rfl⟩
    · exact cz.2.2.2.1.2.2.2.2.2.1.1.2.1
    · exact cz.2.2.2.1.2.2.2.2.2.1.1.2.2.1
  · rcases h7 with ⟨z, d1, d2, d3, d4⟩ | ⟨i, d1, d2, d3, d4⟩
    · refine lv_astore_n (rest := []) cz.1.1 cz.1.2.1 d1 rfl hL d2 rfl (fun ls' hL' => ?_)
      refine lv_iconst cz.1.1 cz.1.2.1 d3 rfl ?_
      exact hr (some (vi v)) h' H locs ls' _ k n _ hq hP hS hk hn (by rw [cz.1.2.1]; exact d4) (Or.inl ⟨_, rfl, rfl, .int, hret, rfl⟩)
    · refine lv_astore (rest := []) cz.1.1 cz.1.2.1 d1 hL d2 rfl (fun ls' hL' => ?_)
      refine lv_iconst cz.1.1 cz.1.2.1 d3 rfl ?_
      exact hr (some (vi v)) h' H locs ls' _ k n _ hq hP hS hk hn (by rw [cz.1.2.1]; exact d4) (Or.inl ⟨_, rfl, rfl, .int, hret, rfl⟩)
theorem x_Vc_T (M' : Mk) (As : List Value) (st : List Value) {idx d' mc' ms' b ci : Nat} {m : Option ((Nat ⊕ Int) × Sg)} {cI cX : Int} {f : Int → Sg → Option (Int × Sg)} {o : Int × Sg} (hs : hcat m cI cX f = some o) (hst : stk = As.reverse ++ .ref b :: st) (hd : decode (mB M) pc = .ok (.invokevirtual idx, 3)) (hlk : LKV M M' idx As.length) (hb : b < nx) (hsh : shp b = some (.inl ci)) (hci : cR ci = (mY M').cls) (hdd : d' + 1 ≤ d) (hk : k + mc' ≤ mc) (hn : n + ms' ≤ ms) (hw : (st.map fun v => v.category).sum ≤ 8)
    (hm : ∀ r, m = some r → mm C M' d' mc' ms' nx nx (.ref b :: As) (hp nx s) (QT nx r) (XT nx r)) (hret : mR M = some .int) (hI : cI ≠ 0 → hndl M pc (exN 0) cI) (hX : cX ≠ 0 → hndl M pc (exN 1) cX) (kk : ∀ r s1, m = some (.inr r, s1) → f r s1 = some o → ww C M d mc ms nx (QI nx o.2 o.1) Qx nx (k + mc') (n + ms') (pc + 3) lv (vi r :: st) (hp nx s1)) : ww C M d mc ms nx (QI nx o.2 o.1) Qx nx k n pc lv stk (hp nx s) := by
  subst hst
  intro p l e s9 m9 args below meth c Fin cz hr hx hzz H locs ls hP hS hL
  have hrm : (rmF d' mc' ms').frames + 1 ≤ (rmF d mc ms).frames ∧ 8 + (mL M' + 11) + (rmF d' mc' ms').locals ≤ (rmF d mc ms).locals := ⟨hdd, by
    have := hlk.1.2.2.2
    show 8 + (mL M' + 11) + 70 * d' ≤ 70 * d
    omega⟩
  have hG2 : GoodIn lw_all (wsV (mY M).cls idx (mY M').cls (mY M') (mW M')) := by
    refine goodAll fun w hw9 => ?_
    simp only [wsV, List.mem_append, List.mem_cons, List.not_mem_nil, or_false] at hw9
    rcases hw9 with (rfl | rfl | rfl | rfl) | hw9
    · exact hlk.2.1
    · exact hlk.2.2.1
    · exact hlk.2.2.2
    · exact hlk.1.1
    · exact mW_sub hlk.1.2.1 w hw9
  have hcw := cwV (ret := mR M') (rm := rmF d' mc' ms') (R := rmF d mc ms) (mc := mc') (ms := ms') (maxL := mL M') (bytes := mB M') As.length cz.2.1 hG2 rfl rfl rfl ⟨rfl, hlk.1.2.2.1⟩ hrm
  have hfix : CallFix p m9 c (mB M) (mL M) s9 args lw_all (mY M).cls := ⟨cz.1.1, cz.1.2.1, cz.1.2.2.2.1, cz.1.2.2.2.2, cz.2.1⟩
  have run : ∀ r, m = some r → vx_Run p l e (rmF d mc ms) s9 m9 args below meth c H locs k n mc' ms' (F0 m9 pc ls ((As.reverse ++ .ref b :: st).map (up C))) (st.map (up C)) (QC C nx (QT nx r) ((Value.ref b :: As).map (up C)).toArray) (XC C nx (XT nx r)) (xAl C) := by
    intro r hr9
    refine vx_runV (As := As.map (up C)) (rest := st.map (up C)) hfix (hm r hr9 l cz.2.2.1.2.2.1) hcw ⟨PB_blind, ?_, fun U hU hW9 => ⟨rfl, PB_now cz hP hS U hU hW9⟩⟩ rfl (List.length_map ..) hL.1 (by show (As.reverse ++ .ref b :: st).map (up C) = _; rw [List.map_append, List.map_reverse]; rfl) (lv_room (by rw [up_sum]; exact hw)) hd ⟨hk, hn⟩
    have h9 := va_recv cz.2.2.2.1.1 hP.1 (cl_at (shp_cls hsh)) (by rw [wl_at C nx _ hb, ce_obj C _ hsh] : (wl C nx (hp nx s))[b]? = some (xB C + b, _))
    rw [← hci, show ad C b = xB C + b from ad_lt (shp_lt hsh)]
    exact h9
  have fin : ∀ (r : (Nat ⊕ Int) × Sg), m = some r → (∀ r' s1, r = (.inr r', s1) → f r' s1 = some o) → (∀ s1, r = (.inl 0, s1) → cI ≠ 0 ∧ o = (cI, s1)) → (∀ e s1, r = (.inl (e + 1), s1) → cX ≠ 0 ∧ o = (cX, s1)) → W p l e (rmF d mc ms) s9 m9 args below meth c H locs k n Fin (F0 m9 pc ls ((As.reverse ++ .ref b :: st).map (up C))) := by
    intro r hr9 k1 k2 k3
    refine hx_fin (run r hr9) hS (fun E ce q h' H1 locs1 g1 g2 g3 g4 g5 g6 => ?_) (fun v h' H1 locs1 g1 g2 g3 => ?_)
    · obtain ⟨e9, w1, rfl, rfl⟩ := g1
      obtain ⟨r1, s1⟩ := r
      simp only at w1
      subst w1
      cases e9 with
      | zero =>
        obtain ⟨q1, rfl⟩ := k2 s1 rfl
        exact hndl_W (ne := nx) (Qr := QI nx s1 cI) cz hr (hI q1) hret ⟨rfl, rfl⟩ g2 g3 hk hn g4 g5 g6 hL
      | succ e9 =>
        obtain ⟨q1, rfl⟩ := k3 e9 s1 rfl
        exact hndl_W (ne := nx) (Qr := QI nx s1 cX) cz hr (hX q1) hret ⟨rfl, rfl⟩ g2 g3 hk hn g4 g5 g6 hL
    · obtain ⟨r', w1, rfl, rfl⟩ := g1
      obtain ⟨r1, s1⟩ := r
      simp only at w1
      subst w1
      exact kk r' s1 hr9 (k1 r' s1 rfl) p l e s9 m9 args below meth c Fin cz hr hx hzz H1 locs1 ls g2 g3 hL
  exact hcat_e hs (fun a s1 hr9 hs1 => fin _ hr9 (fun r' s2 e9 => by cases e9; exact hs1) (fun s2 e9 => by cases e9) (fun e s2 e9 => by cases e9)) (fun s1 hr9 q1 q2 => fin _ hr9 (fun r' s2 e9 => by cases e9) (fun s2 e9 => by cases e9; exact ⟨q1, q2⟩) (fun e s2 e9 => by cases e9)) (fun e s1 hr9 q1 q2 => fin _ hr9 (fun r' s2 e9 => by cases e9) (fun s2 e9 => by cases e9) (fun e s2 e9 => by cases e9; exact ⟨q1, q2⟩))
theorem x_Vc_TF (M' : Mk) (As : List Value) (st : List Value) {idx d' mc' ms' b ci : Nat} {m : Option ((Nat ⊕ UInt32) × Sg)} {cI cX : Int} {f : UInt32 → Sg → Option (Int × Sg)} {o : Int × Sg} (hs : hcat m cI cX f = some o) (hst : stk = As.reverse ++ .ref b :: st) (hd : decode (mB M) pc = .ok (.invokevirtual idx, 3)) (hlk : LKV M M' idx As.length) (hb : b < nx) (hsh : shp b = some (.inl ci)) (hci : cR ci = (mY M').cls) (hdd : d' + 1 ≤ d) (hk : k + mc' ≤ mc) (hn : n + ms' ≤ ms) (hw : (st.map fun v => v.category).sum ≤ 8)
    (hm : ∀ r, m = some r → mm C M' d' mc' ms' nx nx (.ref b :: As) (hp nx s) (QTF nx r) (XT nx r)) (hret : mR M = some .int) (hI : cI ≠ 0 → hndl M pc (exN 0) cI) (hX : cX ≠ 0 → hndl M pc (exN 1) cX) (kk : ∀ r s1, m = some (.inr r, s1) → f r s1 = some o → ww C M d mc ms nx (QI nx o.2 o.1) Qx nx (k + mc') (n + ms') (pc + 3) lv (.float r :: st) (hp nx s1)) : ww C M d mc ms nx (QI nx o.2 o.1) Qx nx k n pc lv stk (hp nx s) := by
  subst hst
  intro p l e s9 m9 args below meth c Fin cz hr hx hzz H locs ls hP hS hL
  have hrm : (rmF d' mc' ms').frames + 1 ≤ (rmF d mc ms).frames ∧ 8 + (mL M' + 11) + (rmF d' mc' ms').locals ≤ (rmF d mc ms).locals := ⟨hdd, by
    have := hlk.1.2.2.2
    show 8 + (mL M' + 11) + 70 * d' ≤ 70 * d
    omega⟩
  have hG2 : GoodIn lw_all (wsV (mY M).cls idx (mY M').cls (mY M') (mW M')) := by
    refine goodAll fun w hw9 => ?_
    simp only [wsV, List.mem_append, List.mem_cons, List.not_mem_nil, or_false] at hw9
    rcases hw9 with (rfl | rfl | rfl | rfl) | hw9
    · exact hlk.2.1
    · exact hlk.2.2.1
    · exact hlk.2.2.2
    · exact hlk.1.1
    · exact mW_sub hlk.1.2.1 w hw9
  have hcw := cwV (ret := mR M') (rm := rmF d' mc' ms') (R := rmF d mc ms) (mc := mc') (ms := ms') (maxL := mL M') (bytes := mB M') As.length cz.2.1 hG2 rfl rfl rfl ⟨rfl, hlk.1.2.2.1⟩ hrm
  have hfix : CallFix p m9 c (mB M) (mL M) s9 args lw_all (mY M).cls := ⟨cz.1.1, cz.1.2.1, cz.1.2.2.2.1, cz.1.2.2.2.2, cz.2.1⟩
  have run : ∀ r, m = some r → vx_Run p l e (rmF d mc ms) s9 m9 args below meth c H locs k n mc' ms' (F0 m9 pc ls ((As.reverse ++ .ref b :: st).map (up C))) (st.map (up C)) (QC C nx (QTF nx r) ((Value.ref b :: As).map (up C)).toArray) (XC C nx (XT nx r)) (xAl C) := by
    intro r hr9
    refine vx_runV (As := As.map (up C)) (rest := st.map (up C)) hfix (hm r hr9 l cz.2.2.1.2.2.1) hcw ⟨PB_blind, ?_, fun U hU hW9 => ⟨rfl, PB_now cz hP hS U hU hW9⟩⟩ rfl (List.length_map ..) hL.1 (by show (As.reverse ++ .ref b :: st).map (up C) = _; rw [List.map_append, List.map_reverse]; rfl) (lv_room (by rw [up_sum]; exact hw)) hd ⟨hk, hn⟩
    have h9 := va_recv cz.2.2.2.1.1 hP.1 (cl_at (shp_cls hsh)) (by rw [wl_at C nx _ hb, ce_obj C _ hsh] : (wl C nx (hp nx s))[b]? = some (xB C + b, _))
    rw [← hci, show ad C b = xB C + b from ad_lt (shp_lt hsh)]
    exact h9
  have fin : ∀ (r : (Nat ⊕ UInt32) × Sg), m = some r → (∀ r' s1, r = (.inr r', s1) → f r' s1 = some o) → (∀ s1, r = (.inl 0, s1) → cI ≠ 0 ∧ o = (cI, s1)) → (∀ e s1, r = (.inl (e + 1), s1) → cX ≠ 0 ∧ o = (cX, s1)) → W p l e (rmF d mc ms) s9 m9 args below meth c H locs k n Fin (F0 m9 pc ls ((As.reverse ++ .ref b :: st).map (up C))) := by
    intro r hr9 k1 k2 k3
    refine hx_fin (run r hr9) hS (fun E ce q h' H1 locs1 g1 g2 g3 g4 g5 g6 => ?_) (fun v h' H1 locs1 g1 g2 g3 => ?_)
    · obtain ⟨e9, w1, rfl, rfl⟩ := g1
      obtain ⟨r1, s1⟩ := r
      simp only at w1
      subst w1
      cases e9 with
      | zero =>
        obtain ⟨q1, rfl⟩ := k2 s1 rfl
        exact hndl_W (ne := nx) (Qr := QI nx s1 cI) cz hr (hI q1) hret ⟨rfl, rfl⟩ g2 g3 hk hn g4 g5 g6 hL
      | succ e9 =>
        obtain ⟨q1, rfl⟩ := k3 e9 s1 rfl
        exact hndl_W (ne := nx) (Qr := QI nx s1 cX) cz hr (hX q1) hret ⟨rfl, rfl⟩ g2 g3 hk hn g4 g5 g6 hL
    · obtain ⟨r', w1, rfl, rfl⟩ := g1
      obtain ⟨r1, s1⟩ := r
      simp only at w1
      subst w1
      exact kk r' s1 hr9 (k1 r' s1 rfl) p l e s9 m9 args below meth c Fin cz hr hx hzz H1 locs1 ls g2 g3 hL
  exact hcat_e hs (fun a s1 hr9 hs1 => fin _ hr9 (fun r' s2 e9 => by cases e9; exact hs1) (fun s2 e9 => by cases e9) (fun e s2 e9 => by cases e9)) (fun s1 hr9 q1 q2 => fin _ hr9 (fun r' s2 e9 => by cases e9) (fun s2 e9 => by cases e9; exact ⟨q1, q2⟩) (fun e s2 e9 => by cases e9)) (fun e s1 hr9 q1 q2 => fin _ hr9 (fun r' s2 e9 => by cases e9) (fun s2 e9 => by cases e9) (fun e s2 e9 => by cases e9; exact ⟨q1, q2⟩))
theorem x_Vc_TD (M' : Mk) (As : List Value) (st : List Value) {idx d' mc' ms' b ci : Nat} {m : Option ((Nat ⊕ UInt64) × Sg)} {cI cX : Int} {f : UInt64 → Sg → Option (Int × Sg)} {o : Int × Sg} (hs : hcat m cI cX f = some o) (hst : stk = As.reverse ++ .ref b :: st) (hd : decode (mB M) pc = .ok (.invokevirtual idx, 3)) (hlk : LKV M M' idx As.length) (hb : b < nx) (hsh : shp b = some (.inl ci)) (hci : cR ci = (mY M').cls) (hdd : d' + 1 ≤ d) (hk : k + mc' ≤ mc) (hn : n + ms' ≤ ms) (hw : (st.map fun v => v.category).sum ≤ 8)
    (hm : ∀ r, m = some r → mm C M' d' mc' ms' nx nx (.ref b :: As) (hp nx s) (QTD nx r) (XT nx r)) (hret : mR M = some .int) (hI : cI ≠ 0 → hndl M pc (exN 0) cI) (hX : cX ≠ 0 → hndl M pc (exN 1) cX) (kk : ∀ r s1, m = some (.inr r, s1) → f r s1 = some o → ww C M d mc ms nx (QI nx o.2 o.1) Qx nx (k + mc') (n + ms') (pc + 3) lv (.double r :: st) (hp nx s1)) : ww C M d mc ms nx (QI nx o.2 o.1) Qx nx k n pc lv stk (hp nx s) := by
  subst hst
  intro p l e s9 m9 args below meth c Fin cz hr hx hzz H locs ls hP hS hL
  have hrm : (rmF d' mc' ms').frames + 1 ≤ (rmF d mc ms).frames ∧ 8 + (mL M' + 11) + (rmF d' mc' ms').locals ≤ (rmF d mc ms).locals := ⟨hdd, by
    have := hlk.1.2.2.2
    show 8 + (mL M' + 11) + 70 * d' ≤ 70 * d
    omega⟩
  have hG2 : GoodIn lw_all (wsV (mY M).cls idx (mY M').cls (mY M') (mW M')) := by
    refine goodAll fun w hw9 => ?_
    simp only [wsV, List.mem_append, List.mem_cons, List.not_mem_nil, or_false] at hw9
    rcases hw9 with (rfl | rfl | rfl | rfl) | hw9
    · exact hlk.2.1
    · exact hlk.2.2.1
    · exact hlk.2.2.2
    · exact hlk.1.1
    · exact mW_sub hlk.1.2.1 w hw9
  have hcw := cwV (ret := mR M') (rm := rmF d' mc' ms') (R := rmF d mc ms) (mc := mc') (ms := ms') (maxL := mL M') (bytes := mB M') As.length cz.2.1 hG2 rfl rfl rfl ⟨rfl, hlk.1.2.2.1⟩ hrm
  have hfix : CallFix p m9 c (mB M) (mL M) s9 args lw_all (mY M).cls := ⟨cz.1.1, cz.1.2.1, cz.1.2.2.2.1, cz.1.2.2.2.2, cz.2.1⟩
  have run : ∀ r, m = some r → vx_Run p l e (rmF d mc ms) s9 m9 args below meth c H locs k n mc' ms' (F0 m9 pc ls ((As.reverse ++ .ref b :: st).map (up C))) (st.map (up C)) (QC C nx (QTD nx r) ((Value.ref b :: As).map (up C)).toArray) (XC C nx (XT nx r)) (xAl C) := by
    intro r hr9
    refine vx_runV (As := As.map (up C)) (rest := st.map (up C)) hfix (hm r hr9 l cz.2.2.1.2.2.1) hcw ⟨PB_blind, ?_, fun U hU hW9 => ⟨rfl, PB_now cz hP hS U hU hW9⟩⟩ rfl (List.length_map ..) hL.1 (by show (As.reverse ++ .ref b :: st).map (up C) = _; rw [List.map_append, List.map_reverse]; rfl) (lv_room (by rw [up_sum]; exact hw)) hd ⟨hk, hn⟩
    have h9 := va_recv cz.2.2.2.1.1 hP.1 (cl_at (shp_cls hsh)) (by rw [wl_at C nx _ hb, ce_obj C _ hsh] : (wl C nx (hp nx s))[b]? = some (xB C + b, _))
    rw [← hci, show ad C b = xB C + b from ad_lt (shp_lt hsh)]
    exact h9
  have fin : ∀ (r : (Nat ⊕ UInt64) × Sg), m = some r → (∀ r' s1, r = (.inr r', s1) → f r' s1 = some o) → (∀ s1, r = (.inl 0, s1) → cI ≠ 0 ∧ o = (cI, s1)) → (∀ e s1, r = (.inl (e + 1), s1) → cX ≠ 0 ∧ o = (cX, s1)) → W p l e (rmF d mc ms) s9 m9 args below meth c H locs k n Fin (F0 m9 pc ls ((As.reverse ++ .ref b :: st).map (up C))) := by
    intro r hr9 k1 k2 k3
    refine hx_fin (run r hr9) hS (fun E ce q h' H1 locs1 g1 g2 g3 g4 g5 g6 => ?_) (fun v h' H1 locs1 g1 g2 g3 => ?_)
    · obtain ⟨e9, w1, rfl, rfl⟩ := g1
      obtain ⟨r1, s1⟩ := r
      simp only at w1
      subst w1
      cases e9 with
      | zero =>
        obtain ⟨q1, rfl⟩ := k2 s1 rfl
        exact hndl_W (ne := nx) (Qr := QI nx s1 cI) cz hr (hI q1) hret ⟨rfl, rfl⟩ g2 g3 hk hn g4 g5 g6 hL
      | succ e9 =>
        obtain ⟨q1, rfl⟩ := k3 e9 s1 rfl
        exact hndl_W (ne := nx) (Qr := QI nx s1 cX) cz hr (hX q1) hret ⟨rfl, rfl⟩ g2 g3 hk hn g4 g5 g6 hL
    · obtain ⟨r', w1, rfl, rfl⟩ := g1
      obtain ⟨r1, s1⟩ := r
      simp only at w1
      subst w1
      exact kk r' s1 hr9 (k1 r' s1 rfl) p l e s9 m9 args below meth c Fin cz hr hx hzz H1 locs1 ls g2 g3 hL
  exact hcat_e hs (fun a s1 hr9 hs1 => fin _ hr9 (fun r' s2 e9 => by cases e9; exact hs1) (fun s2 e9 => by cases e9) (fun e s2 e9 => by cases e9)) (fun s1 hr9 q1 q2 => fin _ hr9 (fun r' s2 e9 => by cases e9) (fun s2 e9 => by cases e9; exact ⟨q1, q2⟩) (fun e s2 e9 => by cases e9)) (fun e s1 hr9 q1 q2 => fin _ hr9 (fun r' s2 e9 => by cases e9) (fun s2 e9 => by cases e9) (fun e s2 e9 => by cases e9; exact ⟨q1, q2⟩))
end HX
/-- a contract of a method with handlers out of a walk of its body -/
theorem mmH_of {C : Cx} {M : Mk} {d mc ms ne : Nat} {Qr : Option Value → Hp → Prop} {Qx : String → Hp → Prop} {nx : Nat} {h : Hp} {args : List Value} (hy : plainName (mY M).cls = true) (hlen : (args.map fun v => v.category).sum ≤ mL M)
    (kk : ww C M d mc ms ne Qr Qx nx 0 0 0 (lv_args 0 args) [] h) : mmH C M d mc ms nx ne args h Qr Qx := by
  intro l hl
  have hlen2 : (lg_sl (args.map (up C))).length ≤ mL M := by
    refine Nat.le_trans (Nat.le_of_eq ?_) hlen
    clear hlen kk
    induction args with
    | nil => rfl
    | cons a t ih =>
      simp only [List.map_cons, List.sum_cons, lg_sl, List.flatMap_cons, List.length_append, up_cat] at ih ⊢
      rw [ih]
      rcases lv_cat a with h | h <;> simp [h]
  refine vx_ofWH (hh := mH M) (cc := mB M) (maxL := mL M) (ret := mR M) hy rfl ?_
  intro p e s m args' below meth c s₁ B hml hv
  obtain ⟨rfl, hSt, hP, hB⟩ := hv
  have hts := atoms_spec (ws := mWH M) B.pre
  have hlocks := B.notSynchronized
  have htab : c.exceptionTable.toList = tableOf (mH M) := vx_table (x := mY M) B (hts _ List.mem_cons_self)
  have cz : Cz C M p l s m (args.map (up C)).toArray meth c := ⟨⟨B.exec, B.bytes, B.returns, hml, findClass_of_methodNamed B.named⟩, fun w hw => hts w (List.mem_cons_of_mem _ hw), ⟨hlocks, (name_of_methodNamed B.named B.method).1, hl, htab⟩, hSt, hB⟩
  have hL := lv_entry (args.map (up C)) hlen2
  rw [lg_entry_eq]
  rw [lm_args] at hL
  refine kk p l e s m _ below meth c _ cz ?_ ?_ (fun E ce q h' U locs k' n' hq hP hF hrun hend hce hv hcl hW hsame hfree hk hn => ⟨.threw q, hrun, hend, Or.inr ⟨q, rfl, E, ce, locs, ⟨h', hq, hP, hF⟩, hce, hv, hcl, hW, hsame.mono hk hn, hfree⟩⟩) s.heap [] _ hP va_S.rf hL
  · intro v h' H locs ls pc k' n' i hq hP' hS' hk' hn' hdg hrt
    refine vx_ret (W.widen hk' hn' ?_)
    have hret : ∀ t : State, t.heap = H → s.WarmedH t.vm → QC C ne Qr (args.map (up C)).toArray s (.returned (v.map (up C))) t := fun t e1 _ => ⟨v, h', rfl, hq, by rw [e1]; exact hP', hS'.F e1⟩
    rcases hrt with ⟨x, rfl, rfl, ty, e1, e2⟩ | ⟨rfl, rfl, e1⟩ | ⟨a, rfl, rfl, ty, e1, e2⟩ | ⟨rfl, rfl, ty, e1, e2⟩ | ⟨x, rfl, rfl, e1⟩ | ⟨x, rfl, rfl, e1⟩
    · exact W.zret B.exec rfl (by rw [B.returns, e1]) e2 hret hS'.2.2 hdg
    · exact W.vret B.exec rfl (by rw [B.returns, e1]) hret hS'.2.2 hdg
    · exact W.aret B.exec rfl (by rw [B.returns, e1]) (by revert e2; cases ty <;> intro e2 <;> first | exact Or.inl ⟨_, rfl⟩ | exact Or.inr ⟨_, rfl⟩ | cases e2) (Or.inr ⟨_, rfl⟩) hret hS'.2.2 hdg
    · exact W.aret B.exec rfl (by rw [B.returns, e1]) (by revert e2; cases ty <;> intro e2 <;> first | exact Or.inl ⟨_, rfl⟩ | exact Or.inr ⟨_, rfl⟩ | cases e2) (Or.inl rfl) hret hS'.2.2 hdg
    · exact W.fret B.exec rfl (by rw [B.returns, e1]) hret hS'.2.2 hdg
    · exact W.dret B.exec rfl (by rw [B.returns, e1]) hret hS'.2.2 hdg
  · intro E ce q h' H locs ls rest pc k' n' hq hP' hS' hk' hn' hcov hce hcv hcl
    exact vx_out hcov hlocks hce hcv hcl (fun t e1 _ => ⟨h', hq, by rw [e1]; exact hP', hS'.F e1⟩) hS'.2.2 hk' hn' 

section THROWG
variable {p : Program} {l : Launch} {e : Env} {R : Room} {s : State} {m : MethodId} {args : Array Value} {below : List Frame} {meth : Method} {c : Code} {H : Heap} {locs : List Loc} {cells slots : Nat} {Q : State → Prop}
variable {ls : Array Slot} {rest : List Value}
theorem vx_throwSG {cc : ByteArray} {pc : Nat} (hexec : p.tables.exec = Jvm.exec) (hb : c.code = cc) (hl : l.stackTraces = false) {own cls text : String} {names : List String} {ik is ic mc ms sa : Nat} {A : Nat → Prop}
    (hown : s.vm.findClass own = some m.cls) (hcls : Bundle.fit cls = true) (hnames : ∀ n ∈ names, Bundle.fit n = true)
    (hk : (Cond.classLink own ik cls).before args s = true) (hini : (Cond.initialized cls).before args s = true) (hstr : vk_R own is text sa s) (hat : ∀ w ∈ vx_atS own ic cls names, w.before args s = true)
    (hgood : ∀ w ∈ Cond.classLink own ik cls :: Cond.initialized cls :: vx_atS own ic cls names, vx_ot w = true)
    (hU : vx_Zq Bundle.tN "UNASSIGNED_STACK" Bundle.steD A s s.heap) (hN : vx_Zq Bundle.tN "SUPPRESSED_SENTINEL" Bundle.listD A s s.heap) (hS : va_S A s.heap H locs) (hsize : ls.size = c.maxLocals)
    (d0 : decode cc pc = .ok (.new ik, 3)) (d3 : decode cc (pc + 3) = .ok (.dup, 1)) (d4 : decode cc (pc + 4) = .ok (.ldc is, 2)) (d6 : decode cc (pc + 6) = .ok (.invokespecial ic, 3)) (d9 : decode cc (pc + 9) = .ok (.athrow, 1))
    (hout : ∀ x ∈ c.exceptionTable.toList, covers x (pc + 9) = false)
    (hRframes : names.length + 3 < R.frames) (hRlocals : (rest.map fun v => v.category).sum + (13 * (names.length + 1) + 43) ≤ R.locals) (hRcells : cells + 1 ≤ R.cells) (hRslots : slots + 6 ≤ R.slots) (hlocks : meth.locks = false)
    (hfin : ∀ (U : State) (q : Addr) (ce : Cell), s.WarmedH U.vm → H.size ≤ U.heap.size → (∀ q : Nat, q < H.size → U.heap[q]? = H[q]?) → U.status = .running → Ended U below (.threw q) → U.heap[q]? = some ce → ce.vm = .none → s.vm.findClass cls = some ce.cls → s.sameButNew ({ U with vm := s.vm } : State) locs mc ms → Q U)
    (hc : cells + 1 ≤ mc) (hs : slots + 6 ≤ ms) :
    W p l e R s m args below meth c H locs cells slots Q (F0 m pc ls rest) := by
  intro T hT X
  have htr : e.platform.stackTraces = false := (show e.platform.stackTraces = l.stackTraces by rw [X.admits.platform]).trans hl
  have Y := vx_rebase X (R' := { frames := R.frames, locals := R.locals, cells := 1, slots := 6 }) (Nat.le_refl _) (Nat.le_refl _) hRcells hRslots
  obtain ⟨s', hA⟩ : ∃ z, z = (T.setVm s.vm).setFrames (.invoking m args :: below) := ⟨_, rfl⟩
  rw [← hA] at Y
  have hvm : s'.vm = s.vm := by rw [hA]; rfl
  have hhp : s'.heap = H := by rw [hA]; exact hT
  have hW0 : s.WarmedH s'.vm := by rw [hvm]; exact State.WarmedH.refl s
  have hat' : ∀ w ∈ vx_atS own ic cls names, w.before args s' = true := fun w hw => vx_ot_at hW0 hvm.symm (hgood w (List.mem_cons_of_mem _ (List.mem_cons_of_mem _ hw))) (hat w hw)
  have hk' : (Cond.classLink own ik cls).before args s' = true := vx_ot_at hW0 hvm.symm (hgood _ List.mem_cons_self) hk
  have hini' : (Cond.initialized cls).before args s' = true := vx_ot_at hW0 hvm.symm (hgood _ (List.mem_cons_of_mem _ List.mem_cons_self)) hini
  have hU' : vx_Zq Bundle.tN "UNASSIGNED_STACK" Bundle.steD A s' s'.heap := by rw [hhp]; exact vx_Zq.moved hW0.alike (hU.kept hS.2.1)
  have hN' : vx_Zq Bundle.tN "SUPPRESSED_SENTINEL" Bundle.listD A s' s'.heap := by rw [hhp]; exact vx_Zq.moved hW0.alike (hN.kept hS.2.1)
  have h : ∀ w ∈ Bundle.ownAtoms own ic cls names, w.before args s' = true := vx_own hat' (vx_isRefq hU'.1) (vx_isRefq hN'.1) hU'.2.word hN'.2.word
  have hown' : s'.vm.findClass own = some m.cls := by rw [hvm]; exact hown
  have hins : (Cond.instantiable cls 6).before args s' = true := h _ (by simp [Bundle.ownAtoms])
  obtain ⟨vm₁, cX, kX, hfX, hkX, -, -, X₁, st1⟩ := Y.newCold hexec (own := own) (C := cls) (index := ik) (n := 6) hown' hk' hins hini'
    (g := F0 m pc ls rest) rfl (by rw [hb]; exact d0) (Nat.le_refl _) (Nat.le_refl _)
  generalize hT1 : (T.setVm vm₁).pushCell { cls := cX, slots := kX.instanceTypes.map defaultValue, vm := .none } = T1 at X₁ st1
  have hcat : (Value.ref T.heap.size).category = 1 := rfl
  have hcellA : T1.heap[T.heap.size]? = some (freshCell cX kX) := by rw [← hT1]; exact State.heap_pushCell_size _ _
  have d3' : decode c.code (pc + 3) = .ok (.dup, 1) := by rw [hb]; exact d3
  have d4' : decode c.code (pc + 4) = .ok (.ldc is, 2) := by rw [hb]; exact d4
  have hstr' : vk_R own is text sa s' := vk_R.warm hW0 hstr
  obtain ⟨U, hsteps, hrun, hend, hW, hsame, ce, hce, hO⟩ := X₁.ctorThrowS hexec htr (own := own) (cls := cls) (names := names) (ic := ic) hown' hcls hnames h (fun x hx => nomatch hx) hfX hkX hcellA (by rw [hhp, hT]; exact Nat.le_refl _) (msg := .ref sa) rfl
    (g := { method := m, pc := pc + 6, locals := ls, stack := .ref sa :: .ref T.heap.size :: .ref T.heap.size :: rest, locked := none }) rfl hsize rfl rfl (rest := rest) rfl
    (by rw [hb]; exact d6) (by rw [hb]; exact d9) hout hRframes (by simp only [List.map_cons, List.sum_cons, hcat]; omega) hlocks
  obtain ⟨f1, f2⟩ := vx_frame hsame
  rw [hhp] at f1 f2
  have hWs : s.WarmedH U.vm := State.WarmedH.trans hW0 hW
  have hcl : s.vm.findClass cls = some ce.cls := by
    have h9 := hO.cls
    rw [hvm] at h9
    exact h9
  have hall : s.sameButNew ({ U with vm := s.vm } : State) locs mc ms := by
    subst hA
    obtain ⟨e1, e2⟩ := hsame
    rw [State.setFrames_setFrames] at e1
    have h2 : (T.setVm s.vm).sameButNew ({ U with vm := s.vm } : State) [] (0 + 1) (0 + 6) := ⟨e1, e2⟩
    have h3 := X.same.trans h2
    rw [List.append_nil] at h3
    exact h3.mono hc hs
  refine ⟨U, ?_, hfin U T.heap.size ce hWs f1 (fun q hq => f2 q hq (fun z hz => nomatch hz)) hrun hend hce hO.vm hcl hall⟩
  refine st1 _ ?_
  show Steps p.tables e below (T1.setTop { method := m, pc := pc + 3, locals := ls, stack := .ref T.heap.size :: rest, locked := none }) _
  jvm_step X₁.here [X₁.here.top, hexec, d3', Value.category]
  exact X₁.ldcString hexec (own := own) (text := text) (index := is) (a := sa) hown' hstr'.1 hstr'.2
    (g := { method := m, pc := pc + 4, locals := ls, stack := .ref T.heap.size :: .ref T.heap.size :: rest, locked := none }) rfl d4' _ hsteps
theorem vx_throwSWG {cc : ByteArray} {pc : Nat} (hexec : p.tables.exec = Jvm.exec) (hb : c.code = cc) (hl : l.stackTraces = false) {own cls text : String} {names : List String} {ik is ic mc ms sa : Nat} {A : Nat → Prop}
    (hown : s.vm.findClass own = some m.cls) (hcls : Bundle.fit cls = true) (hnames : ∀ n ∈ names, Bundle.fit n = true)
    (hk : (Cond.classLink own ik cls).before args s = true) (hini : (Cond.initialized cls).before args s = true) (hstr : vk_R own is text sa s) (hat : ∀ w ∈ vx_atS own ic cls names, w.before args s = true)
    (hgood : ∀ w ∈ Cond.classLink own ik cls :: Cond.initialized cls :: vx_atS own ic cls names, vx_ot w = true)
    (hU : vx_Zq Bundle.tN "UNASSIGNED_STACK" Bundle.steD A s s.heap) (hN : vx_Zq Bundle.tN "SUPPRESSED_SENTINEL" Bundle.listD A s s.heap) (hS : va_S A s.heap H locs) (hsize : ls.size = c.maxLocals)
    (d0 : decode cc pc = .ok (.new ik, 3)) (d3 : decode cc (pc + 3) = .ok (.dup, 1)) (d4 : decode cc (pc + 4) = .ok (.ldc_w is, 3)) (d7 : decode cc (pc + 7) = .ok (.invokespecial ic, 3)) (d10 : decode cc (pc + 10) = .ok (.athrow, 1))
    (hout : ∀ x ∈ c.exceptionTable.toList, covers x (pc + 10) = false)
    (hRframes : names.length + 3 < R.frames) (hRlocals : (rest.map fun v => v.category).sum + (13 * (names.length + 1) + 43) ≤ R.locals) (hRcells : cells + 1 ≤ R.cells) (hRslots : slots + 6 ≤ R.slots) (hlocks : meth.locks = false)
    (hfin : ∀ (U : State) (q : Addr) (ce : Cell), s.WarmedH U.vm → H.size ≤ U.heap.size → (∀ q : Nat, q < H.size → U.heap[q]? = H[q]?) → U.status = .running → Ended U below (.threw q) → U.heap[q]? = some ce → ce.vm = .none → s.vm.findClass cls = some ce.cls → s.sameButNew ({ U with vm := s.vm } : State) locs mc ms → Q U)
    (hc : cells + 1 ≤ mc) (hs : slots + 6 ≤ ms) :
    W p l e R s m args below meth c H locs cells slots Q (F0 m pc ls rest) := by
  intro T hT X
  have htr : e.platform.stackTraces = false := (show e.platform.stackTraces = l.stackTraces by rw [X.admits.platform]).trans hl
  have Y := vx_rebase X (R' := { frames := R.frames, locals := R.locals, cells := 1, slots := 6 }) (Nat.le_refl _) (Nat.le_refl _) hRcells hRslots
  obtain ⟨s', hA⟩ : ∃ z, z = (T.setVm s.vm).setFrames (.invoking m args :: below) := ⟨_, rfl⟩
  rw [← hA] at Y
  have hvm : s'.vm = s.vm := by rw [hA]; rfl
  have hhp : s'.heap = H := by rw [hA]; exact hT
  have hW0 : s.WarmedH s'.vm := by rw [hvm]; exact State.WarmedH.refl s
  have hat' : ∀ w ∈ vx_atS own ic cls names, w.before args s' = true := fun w hw => vx_ot_at hW0 hvm.symm (hgood w (List.mem_cons_of_mem _ (List.mem_cons_of_mem _ hw))) (hat w hw)
  have hk' : (Cond.classLink own ik cls).before args s' = true := vx_ot_at hW0 hvm.symm (hgood _ List.mem_cons_self) hk
  have hini' : (Cond.initialized cls).before args s' = true := vx_ot_at hW0 hvm.symm (hgood _ (List.mem_cons_of_mem _ List.mem_cons_self)) hini
  have hU' : vx_Zq Bundle.tN "UNASSIGNED_STACK" Bundle.steD A s' s'.heap := by rw [hhp]; exact vx_Zq.moved hW0.alike (hU.kept hS.2.1)
  have hN' : vx_Zq Bundle.tN "SUPPRESSED_SENTINEL" Bundle.listD A s' s'.heap := by rw [hhp]; exact vx_Zq.moved hW0.alike (hN.kept hS.2.1)
  have h : ∀ w ∈ Bundle.ownAtoms own ic cls names, w.before args s' = true := vx_own hat' (vx_isRefq hU'.1) (vx_isRefq hN'.1) hU'.2.word hN'.2.word
  have hown' : s'.vm.findClass own = some m.cls := by rw [hvm]; exact hown
  have hins : (Cond.instantiable cls 6).before args s' = true := h _ (by simp [Bundle.ownAtoms])
  obtain ⟨vm₁, cX, kX, hfX, hkX, -, -, X₁, st1⟩ := Y.newCold hexec (own := own) (C := cls) (index := ik) (n := 6) hown' hk' hins hini'
    (g := F0 m pc ls rest) rfl (by rw [hb]; exact d0) (Nat.le_refl _) (Nat.le_refl _)
  generalize hT1 : (T.setVm vm₁).pushCell { cls := cX, slots := kX.instanceTypes.map defaultValue, vm := .none } = T1 at X₁ st1
  have hcat : (Value.ref T.heap.size).category = 1 := rfl
  have hcellA : T1.heap[T.heap.size]? = some (freshCell cX kX) := by rw [← hT1]; exact State.heap_pushCell_size _ _
  have d3' : decode c.code (pc + 3) = .ok (.dup, 1) := by rw [hb]; exact d3
  have d4' : decode c.code (pc + 4) = .ok (.ldc_w is, 3) := by rw [hb]; exact d4
  have hstr' : vk_R own is text sa s' := vk_R.warm hW0 hstr
  obtain ⟨U, hsteps, hrun, hend, hW, hsame, ce, hce, hO⟩ := X₁.ctorThrowS hexec htr (own := own) (cls := cls) (names := names) (ic := ic) hown' hcls hnames h (fun x hx => nomatch hx) hfX hkX hcellA (by rw [hhp, hT]; exact Nat.le_refl _) (msg := .ref sa) rfl
    (g := { method := m, pc := pc + 7, locals := ls, stack := .ref sa :: .ref T.heap.size :: .ref T.heap.size :: rest, locked := none }) rfl hsize rfl rfl (rest := rest) rfl
    (by rw [hb]; exact d7) (by rw [hb]; exact d10) hout hRframes (by simp only [List.map_cons, List.sum_cons, hcat]; omega) hlocks
  obtain ⟨f1, f2⟩ := vx_frame hsame
  rw [hhp] at f1 f2
  have hWs : s.WarmedH U.vm := State.WarmedH.trans hW0 hW
  have hcl : s.vm.findClass cls = some ce.cls := by
    have h9 := hO.cls
    rw [hvm] at h9
    exact h9
  have hall : s.sameButNew ({ U with vm := s.vm } : State) locs mc ms := by
    subst hA
    obtain ⟨e1, e2⟩ := hsame
    rw [State.setFrames_setFrames] at e1
    have h2 : (T.setVm s.vm).sameButNew ({ U with vm := s.vm } : State) [] (0 + 1) (0 + 6) := ⟨e1, e2⟩
    have h3 := X.same.trans h2
    rw [List.append_nil] at h3
    exact h3.mono hc hs
  refine ⟨U, ?_, hfin U T.heap.size ce hWs f1 (fun q hq => f2 q hq (fun z hz => nomatch hz)) hrun hend hce hO.vm hcl hall⟩
  refine st1 _ ?_
  show Steps p.tables e below (T1.setTop { method := m, pc := pc + 3, locals := ls, stack := .ref T.heap.size :: rest, locked := none }) _
  jvm_step X₁.here [X₁.here.top, hexec, d3', Value.category]
  exact X₁.ldcStringW hexec (own := own) (text := text) (index := is) (a := sa) hown' hstr'.1 hstr'.2
    (g := { method := m, pc := pc + 4, locals := ls, stack := .ref T.heap.size :: .ref T.heap.size :: rest, locked := none }) rfl d4' _ hsteps
end THROWG
theorem HPh_grow {C : Cx} {nx : Nat} {h : Hp} {H H1 : Heap} (hP : HPh C nx h H) (hnK : KN ≤ nx) (hz : H.size ≤ H1.size) (hq : ∀ q : Nat, q < H.size → H1[q]? = H[q]?) : HPh C nx h H1 := by
  obtain ⟨p1, p2, p3, p4, p5, p6⟩ := hP
  exact ⟨p1.kept (fun k x hx => hq x.1 ((p1 k x hx).lt)), p2, Nat.le_trans p3 hz, fun hn => absurd hn (Nat.not_lt.mpr hnK), p5, p6⟩
def exNames : List String := ["java/lang/RuntimeException", "java/lang/Exception"]
theorem exfit : ∀ n ∈ exNames, Bundle.fit n = true := by decide +kernel
theorem x_throw {C : Cx} {M : Mk} {d mc ms : Nat} {Qr : Option Value → Hp → Prop} {Qx : String → Hp → Prop} {nx k n pc : Nat} {lv : List (Nat × Value)} {st : List Value} {h : Hp} {ik is ic sa : Nat} {text cls : String} (d0 : decode (mB M) pc = .ok (.new ik, 3)) (d3 : decode (mB M) (pc + 3) = .ok (.dup, 1)) (d4 : decode (mB M) (pc + 4) = .ok (.ldc is, 2)) (d6 : decode (mB M) (pc + 6) = .ok (.invokespecial ic, 3)) (d9 : decode (mB M) (pc + 9) = .ok (.athrow, 1))
    (hfit : Bundle.fit cls = true) (hk : Cond.classLink (mY M).cls ik cls ∈ lw_all) (hini : Cond.initialized cls ∈ lw_all) (hstr : ((mY M).cls, is, text, sa) ∈ strL) (hat : ∀ w ∈ vx_atS (mY M).cls ic cls exNames, w ∈ lw_all ∨ w ∈ fw_all) (hH : mH M = []) (hd : 9 ≤ d) (hnK : KN ≤ nx) (hkc : k + 1 ≤ mc) (hnc : n + 6 ≤ ms) (hw : (st.map fun v => v.category).sum ≤ 8) (hq : Qx cls h) : ww C M d mc ms nx Qr Qx nx k n pc lv st h := by
  intro p l e s m args below meth c Fin cz hr hx hzz H locs ls hP hS hL
  have hex : c.exceptionTable.toList = [] := by rw [cz.2.2.1.2.2.2, hH]; rfl
  refine vx_throwSG (cls := cls) (names := exNames) (mc := mc) (ms := ms) cz.1.1 cz.1.2.1 cz.2.2.1.2.2.1 cz.1.2.2.2.2 hfit exfit (cz.2.1 _ hk) (cz.2.1 _ hini) (cz.2.2.2.1.2.2.2.2.2.1.2 _ hstr) (fun w hw => (hat w hw).elim (fun h => cz.2.1 _ h) (fun h => va_tabs (fw_2 h).2 rfl (cz.2.2.2.1.2.2.2.2.2.1.1.1 _ h))) (fun w hw => ?_) cz.2.2.2.1.2.2.2.2.1.1 cz.2.2.2.1.2.2.2.2.1.2 hS (hL.1.trans cz.1.2.2.2.1.symm) d0 d3 d4 d6 d9 (fun x hx9 => by rw [hex] at hx9; cases hx9) (show 2 + 3 < d by omega) (by rw [up_sum]; show _ + (13 * (2 + 1) + 43) ≤ 70 * d; omega) hkc hnc cz.2.2.1.1 ?_ hkc hnc
  · unfold vx_ot
    rcases List.mem_cons.mp hw with rfl | hw
    · rw [lw_all_good hk, Bool.or_true]
    · rcases List.mem_cons.mp hw with rfl | hw
      · rw [lw_all_good hini, Bool.or_true]
      · rcases hat w hw with h | h
        · rw [lw_all_good h, Bool.or_true]
        · rw [(fw_2 h).2, Bool.true_or]
  · intro U q ce hW hz hq1 hrun hend hce hcv hcl hsame
    have hP' := HPh_grow hP hnK hz hq1
    have hS' : va_S (xAl C) s.heap U.heap locs := ⟨Nat.le_trans hS.1 hz, fun x h1 h2 => (hq1 x (Nat.lt_of_lt_of_le h1 hS.1)).trans (hS.2.1 x h1 h2), hS.2.2⟩
    exact hzz cls ce q h U locs mc ms hq hP' (hS'.F rfl) hrun hend hce hcv hcl hW hsame hS'.2.2 (Nat.le_refl _) (Nat.le_refl _)
theorem x_throwW {C : Cx} {M : Mk} {d mc ms : Nat} {Qr : Option Value → Hp → Prop} {Qx : String → Hp → Prop} {nx k n pc : Nat} {lv : List (Nat × Value)} {st : List Value} {h : Hp} {ik is ic sa : Nat} {text cls : String} (d0 : decode (mB M) pc = .ok (.new ik, 3)) (d3 : decode (mB M) (pc + 3) = .ok (.dup, 1)) (d4 : decode (mB M) (pc + 4) = .ok (.ldc_w is, 3)) (d6 : decode (mB M) (pc + 7) = .ok (.invokespecial ic, 3)) (d9 : decode (mB M) (pc + 10) = .ok (.athrow, 1))
    (hfit : Bundle.fit cls = true) (hk : Cond.classLink (mY M).cls ik cls ∈ lw_all) (hini : Cond.initialized cls ∈ lw_all) (hstr : ((mY M).cls, is, text, sa) ∈ strL) (hat : ∀ w ∈ vx_atS (mY M).cls ic cls exNames, w ∈ lw_all ∨ w ∈ fw_all) (hH : mH M = []) (hd : 9 ≤ d) (hnK : KN ≤ nx) (hkc : k + 1 ≤ mc) (hnc : n + 6 ≤ ms) (hw : (st.map fun v => v.category).sum ≤ 8) (hq : Qx cls h) : ww C M d mc ms nx Qr Qx nx k n pc lv st h := by
  intro p l e s m args below meth c Fin cz hr hx hzz H locs ls hP hS hL
  have hex : c.exceptionTable.toList = [] := by rw [cz.2.2.1.2.2.2, hH]; rfl
  refine vx_throwSWG (cls := cls) (names := exNames) (mc := mc) (ms := ms) cz.1.1 cz.1.2.1 cz.2.2.1.2.2.1 cz.1.2.2.2.2 hfit exfit (cz.2.1 _ hk) (cz.2.1 _ hini) (cz.2.2.2.1.2.2.2.2.2.1.2 _ hstr) (fun w hw => (hat w hw).elim (fun h => cz.2.1 _ h) (fun h => va_tabs (fw_2 h).2 rfl (cz.2.2.2.1.2.2.2.2.2.1.1.1 _ h))) (fun w hw => ?_) cz.2.2.2.1.2.2.2.2.1.1 cz.2.2.2.1.2.2.2.2.1.2 hS (hL.1.trans cz.1.2.2.2.1.symm) d0 d3 d4 d6 d9 (fun x hx9 => by rw [hex] at hx9; cases hx9) (show 2 + 3 < d by omega) (by rw [up_sum]; show _ + (13 * (2 + 1) + 43) ≤ 70 * d; omega) hkc hnc cz.2.2.1.1 ?_ hkc hnc
  · unfold vx_ot
    rcases List.mem_cons.mp hw with rfl | hw
    · rw [lw_all_good hk, Bool.or_true]
    · rcases List.mem_cons.mp hw with rfl | hw
      · rw [lw_all_good hini, Bool.or_true]
      · rcases hat w hw with h | h
        · rw [lw_all_good h, Bool.or_true]
        · rw [(fw_2 h).2, Bool.true_or]
  · intro U q ce hW hz hq1 hrun hend hce hcv hcl hsame
    have hP' := HPh_grow hP hnK hz hq1
    have hS' : va_S (xAl C) s.heap U.heap locs := ⟨Nat.le_trans hS.1 hz, fun x h1 h2 => (hq1 x (Nat.lt_of_lt_of_le h1 hS.1)).trans (hS.2.1 x h1 h2), hS.2.2⟩
    exact hzz cls ce q h U locs mc ms hq hP' (hS'.F rfl) hrun hend hce hcv hcl hW hsame hS'.2.2 (Nat.le_refl _) (Nat.le_refl _)
set_option maxRecDepth 100000 in
theorem at_0_177 : ∀ w ∈ vx_atS "HexArbiter" 177 "java/lang/IllegalArgumentException" exNames, w ∈ lw_all ∨ w ∈ fw_all := by
  have h : (vx_atS "HexArbiter" 177 "java/lang/IllegalArgumentException" exNames).all (fun w => if goodWord w = true then decide (w ∈ lw_tbl) else w.faceAtom && w.onTables && decide (w ∈ tables_1)) = true := by decide +kernel
  intro w hw
  have h1 := List.all_eq_true.mp h w hw
  by_cases hg : goodWord w = true
  · simp only [hg, if_true, decide_eq_true_eq] at h1
    exact Or.inl (lw_all_mem h1 hg)
  · rw [if_neg hg] at h1
    simp only [Bool.and_eq_true, decide_eq_true_eq] at h1
    exact Or.inr (List.mem_filter.mpr ⟨h1.2, by rw [h1.1.1, h1.1.2]; rfl⟩)
theorem thX11_size_141 {C : Cx} {Qr : Option Value → Hp → Prop} {Qx : String → Hp → Prop} {nx k n : Nat} {lv : List (Nat × Value)} {st : List Value} {h : Hp} (hnK : KN ≤ nx) (hkc : k + 1 ≤ 1) (hnc : n + 6 ≤ 6) (hq : Qx (exN 0) h) (hw : (st.map fun v => v.category).sum ≤ 8) : ww C M_X11_size 9 1 6 nx Qr Qx nx k n 141 lv st h :=
  x_throw (cls := "java/lang/IllegalArgumentException") (text := "what is out of range") (sa := 2200) dX11_size_141 dX11_size_144 dX11_size_145 dX11_size_147 dX11_size_150 (by decide +kernel) (lw_all_mem (List.mem_append_right _ (List.mem_of_getElem? (i := 849) (by decide +kernel))) (by decide +kernel)) (lw_all_mem (List.mem_append_right _ (List.mem_of_getElem? (i := 23) (by decide +kernel))) (by decide +kernel)) (List.mem_of_getElem? (i := 6) rfl) at_0_177 rfl (Nat.le_of_ble_eq_true rfl) hnK hkc hnc hw hq
set_option maxRecDepth 100000 in
theorem at_1_333 : ∀ w ∈ vx_atS "HexArbiter" 333 "java/lang/IndexOutOfBoundsException" exNames, w ∈ lw_all ∨ w ∈ fw_all := by
  have h : (vx_atS "HexArbiter" 333 "java/lang/IndexOutOfBoundsException" exNames).all (fun w => if goodWord w = true then decide (w ∈ lw_tbl) else w.faceAtom && w.onTables && decide (w ∈ tables_1)) = true := by decide +kernel
  intro w hw
  have h1 := List.all_eq_true.mp h w hw
  by_cases hg : goodWord w = true
  · simp only [hg, if_true, decide_eq_true_eq] at h1
    exact Or.inl (lw_all_mem h1 hg)
  · rw [if_neg hg] at h1
    simp only [Bool.and_eq_true, decide_eq_true_eq] at h1
    exact Or.inr (List.mem_filter.mpr ⟨h1.2, by rw [h1.1.1, h1.1.2]; rfl⟩)
theorem thX11_requireCell_15 {C : Cx} {Qr : Option Value → Hp → Prop} {Qx : String → Hp → Prop} {nx k n : Nat} {lv : List (Nat × Value)} {st : List Value} {h : Hp} (hnK : KN ≤ nx) (hkc : k + 1 ≤ 1) (hnc : n + 6 ≤ 6) (hq : Qx (exN 1) h) (hw : (st.map fun v => v.category).sum ≤ 8) : ww C M_X11_requireCell 9 1 6 nx Qr Qx nx k n 15 lv st h :=
  x_throwW (cls := "java/lang/IndexOutOfBoundsException") (text := "there is no such cell") (sa := 2201) dX11_requireCell_15 dX11_requireCell_18 dX11_requireCell_19 dX11_requireCell_22 dX11_requireCell_25 (by decide +kernel) (lw_all_mem (List.mem_append_right _ (List.mem_of_getElem? (i := 927) (by decide +kernel))) (by decide +kernel)) (lw_all_mem (List.mem_append_right _ (List.mem_of_getElem? (i := 24) (by decide +kernel))) (by decide +kernel)) (List.mem_of_getElem? (i := 7) rfl) at_1_333 rfl (Nat.le_of_ble_eq_true rfl) hnK hkc hnc hw hq
theorem thX11_requireRange_10 {C : Cx} {Qr : Option Value → Hp → Prop} {Qx : String → Hp → Prop} {nx k n : Nat} {lv : List (Nat × Value)} {st : List Value} {h : Hp} (hnK : KN ≤ nx) (hkc : k + 1 ≤ 1) (hnc : n + 6 ≤ 6) (hq : Qx (exN 0) h) (hw : (st.map fun v => v.category).sum ≤ 8) : ww C M_X11_requireRange 9 1 6 nx Qr Qx nx k n 10 lv st h :=
  x_throwW (cls := "java/lang/IllegalArgumentException") (text := "a value is out of range") (sa := 2202) dX11_requireRange_10 dX11_requireRange_13 dX11_requireRange_14 dX11_requireRange_17 dX11_requireRange_20 (by decide +kernel) (lw_all_mem (List.mem_append_right _ (List.mem_of_getElem? (i := 849) (by decide +kernel))) (by decide +kernel)) (lw_all_mem (List.mem_append_right _ (List.mem_of_getElem? (i := 23) (by decide +kernel))) (by decide +kernel)) (List.mem_of_getElem? (i := 8) rfl) at_0_177 rfl (Nat.le_of_ble_eq_true rfl) hnK hkc hnc hw hq
theorem thX11_requireSide_9 {C : Cx} {Qr : Option Value → Hp → Prop} {Qx : String → Hp → Prop} {nx k n : Nat} {lv : List (Nat × Value)} {st : List Value} {h : Hp} (hnK : KN ≤ nx) (hkc : k + 1 ≤ 1) (hnc : n + 6 ≤ 6) (hq : Qx (exN 0) h) (hw : (st.map fun v => v.category).sum ≤ 8) : ww C M_X11_requireSide 9 1 6 nx Qr Qx nx k n 9 lv st h :=
  x_throwW (cls := "java/lang/IllegalArgumentException") (text := "side is out of range") (sa := 2203) dX11_requireSide_9 dX11_requireSide_12 dX11_requireSide_13 dX11_requireSide_16 dX11_requireSide_19 (by decide +kernel) (lw_all_mem (List.mem_append_right _ (List.mem_of_getElem? (i := 849) (by decide +kernel))) (by decide +kernel)) (lw_all_mem (List.mem_append_right _ (List.mem_of_getElem? (i := 23) (by decide +kernel))) (by decide +kernel)) (List.mem_of_getElem? (i := 9) rfl) at_0_177 rfl (Nat.le_of_ble_eq_true rfl) hnK hkc hnc hw hq
theorem thX11_writeRow_15 {C : Cx} {Qr : Option Value → Hp → Prop} {Qx : String → Hp → Prop} {nx k n : Nat} {lv : List (Nat × Value)} {st : List Value} {h : Hp} (hnK : KN ≤ nx) (hkc : k + 1 ≤ 1) (hnc : n + 6 ≤ 6) (hq : Qx (exN 1) h) (hw : (st.map fun v => v.category).sum ≤ 8) : ww C M_X11_writeRow 9 1 6 nx Qr Qx nx k n 15 lv st h :=
  x_throwW (cls := "java/lang/IndexOutOfBoundsException") (text := "there is no such row") (sa := 2204) dX11_writeRow_15 dX11_writeRow_18 dX11_writeRow_19 dX11_writeRow_22 dX11_writeRow_25 (by decide +kernel) (lw_all_mem (List.mem_append_right _ (List.mem_of_getElem? (i := 927) (by decide +kernel))) (by decide +kernel)) (lw_all_mem (List.mem_append_right _ (List.mem_of_getElem? (i := 24) (by decide +kernel))) (by decide +kernel)) (List.mem_of_getElem? (i := 10) rfl) at_1_333 rfl (Nat.le_of_ble_eq_true rfl) hnK hkc hnc hw hq
theorem p_Hi_latest {x1 : Int} {s : Sg} {o : Nat} (hs : Hi_latest x1 s = some o) : isPos o := by
  unfold Hi_latest Hi_latest_b23 at hs
  refine grd_e hs (fun _ hs => ?_)
  obtain ⟨-, -, h1, h2⟩ := ifLt_u (lett_eq _ _ ▸ hs)
  by_cases q : (gi s 16 1 + x1) % 8 < 0
  · cases h1 q
  · obtain ⟨-, -, h3, h4⟩ := ifLt_u (h2 q)
    by_cases q2 : (gi s 16 1 + x1) % 8 < 8
    · refine grd_e (h3 q2) (fun hg hs => ?_)
      cases hs
      exact pos17 hg
    · cases h4 q2
theorem p_Hx_pathsOf {x1 : Int} {s s1 : Sg} {o : Nat} (hs : Hx_pathsOf x1 s = some (o, s1)) : isPaths o := by
  unfold Hx_pathsOf Hx_pathsOf_b15 at hs
  obtain ⟨-, -, h1, h2⟩ := ifEq_u hs
  by_cases q : x1 = 0
  · refine bnd_e (h1 q) (fun s2 _ hs => ?_)
    cases hs
    exact Or.inl rfl
  · refine bnd_e (h2 q) (fun s2 _ hs => ?_)
    cases hs
    exact Or.inr rfl

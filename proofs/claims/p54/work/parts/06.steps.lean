/-! ===== the static part of a world ===== -/
def tyl (C : Cx) : List (ClassId × FieldType) := [(xA C .int, .int), (xA C .boolean, .boolean), (xA C .byte, .byte), (xA C ty_pos, ty_pos)]
/-- an old row of ints, by its number -/
def roC (C : Cx) (i n : Nat) (U : State) (H : Heap) : Prop := ∃ cell : Cell, xO C i < xB C ∧ H[xO C i]? = some cell ∧ U.isArrayOf cell .int ∧ cell.vm ≠ .unknown ∧ (n ≤ cell.slots.size ∧ cell.slots.size.toInt32 = Int32.ofNat n) ∧ ∀ j : Nat, j < n → cell.slots[j]? = some (.int (xV C i j))
theorem roC.moved {C : Cx} {i n : Nat} {u U : State} {H : Heap} (hvm : u.vm.Alike U.vm) (h : roC C i n u H) : roC C i n U H := by
  obtain ⟨cell, h0, h1, h2, h3⟩ := h
  exact ⟨cell, h0, h1, State.isArrayOf_alike hvm h2, h3⟩
theorem roC.kept {C : Cx} {i n : Nat} {U : State} {H H1 : Heap} (h : roC C i n U H) (hq : ∀ a : Nat, a < H.size → ¬ xAl C a → H1[a]? = H[a]?) : roC C i n U H1 := by
  obtain ⟨cell, h0, h1, h2⟩ := h
  exact ⟨cell, h0, by rw [hq _ (Array.getElem?_eq_some_iff.mp h1).1 (Nat.not_le.mpr h0)]; exact h1, h2⟩
/-- the old rows: number, length -/
def roL (C : Cx) : List (Nat × Nat) := [(1000, 6), (1001, 6), (1002, 3), (1003, 3), (1004, 3), (1005, 3), (1006, 3), (1007, 3), (1200, xL C)]
/-- the static fields that hold the first eight -/
def rsF : List (String × String × Nat) := [("HexArbiter$Grid", "STEP_ROWS", 1000), ("HexArbiter$Grid", "STEP_COLUMNS", 1001), ("HexArbiter$BridgeList", "FAR_ROWS", 1002), ("HexArbiter$BridgeList", "FAR_COLUMNS", 1003), ("HexArbiter$BridgeList", "LOW_ROWS", 1004), ("HexArbiter$BridgeList", "LOW_COLUMNS", 1005), ("HexArbiter$BridgeList", "HIGH_ROWS", 1006), ("HexArbiter$BridgeList", "HIGH_COLUMNS", 1007)]
/-- the words on private members of nest mates -/
def nw_all : List Cond := tables_1.filter (fun w => match w with
  | .fieldLinkNest .. => true
  | .methodLinkNest .. => true
  | .castable .. => true
  | _ => false)
def nwF (U : State) : Prop := ∀ w ∈ nw_all, va_Nw w U
theorem nwF.warm {s U : State} (hW : s.WarmedH U.vm) (h : nwF s) : nwF U := by
  intro w hw
  have h1 := h w hw
  have h2 := (List.mem_filter.mp hw).2
  revert h1 h2
  cases w <;> intro h1 h2 <;> first | exact va_Nw.warmF hW h1 | exact va_Nw.warmM hW h1 | exact va_Nw.warmC hW h1 | cases h2
theorem nwF.same {u U : State} (e : u.vm = U.vm) (h : nwF u) : nwF U := by
  intro w hw
  have h1 := h w hw
  have h2 := (List.mem_filter.mp hw).2
  revert h1 h2
  cases w <;> intro h1 h2 <;> first | exact va_Nw.same rfl e h1 | cases h2
/-- the JDK's row of last digits -/
def sStat (C : Cx) (U : State) (H : Heap) : Prop := va_Z "java/lang/Integer" "DigitOnes" "[B" (.ref (xO C 1901)) (xAl C) U H ∧ va_T .byte (xO C 1901) 100 (fun j => .int (Int32.ofInt (48 + (j % 10 : Nat)))) (xAl C) U H
/-! the String constants: the Reader's words (0 to 5), the law's (20 to 26) -/
def wordL : List (List Int) := [[98, 111, 97, 114, 100], [115, 119, 97, 112], [109, 111, 118, 101], [116, 117, 114, 110], [114, 101, 100], [98, 108, 117, 101], [], [], [], [], [], [], [], [], [], [], [], [], [], [], [98, 111, 97, 114, 100, 32], [32, 115, 119, 97, 112], [], [59, 114, 101, 100], [59, 98, 108, 117, 101], [59, 116, 117, 114, 110, 32, 114, 101, 100], [59, 116, 117, 114, 110, 32, 98, 108, 117, 101]]
def wlen (w : Nat) : Nat := ((wordL[w]?).getD []).length
def wch (w j : Nat) : Int := (((wordL[w]?).getD [])[j]?).getD 0
def isStr (w : Nat) : Prop := w < 6 ∨ (20 ≤ w ∧ w < 27)
def strL : List (String × Nat × String × Nat) := [("HexArbiterLaw", 41, "board ", 2020), ("HexArbiterLaw", 49, " swap", 2021), ("HexArbiterLaw", 51, "", 2022), ("HexArbiterLaw", 56, ";red", 2023), ("HexArbiterLaw", 58, ";blue", 2024), ("HexArbiterLaw", 63, ";turn red", 2025), ("HexArbiterLaw", 65, ";turn blue", 2026), ("HexArbiter$Reader", 59, "board", 2000), ("HexArbiter$Reader", 77, "swap", 2001), ("HexArbiter$Reader", 83, "move", 2002), ("HexArbiter$Reader", 85, "turn", 2003), ("HexArbiter$Reader", 135, "red", 2004), ("HexArbiter$Reader", 137, "blue", 2005)]
/-- a static that may be null -/
def sio (C : Cx) : Value := if xV C 1900 0 = 0 then .null else .ref (xO C 1900)
def fwF (U : State) : Prop := va_AO "HexArbiter$Position" U
theorem fwF.same {u U : State} (e : u.vm = U.vm) (h : fwF u) : fwF U := va_AO.moved (by rw [e]; exact Vm.Alike.refl _) h
theorem fwF.warm {s U : State} (hW : s.WarmedH U.vm) (h : fwF s) : fwF U := va_AO.moved hW.alike h
def sStr (C : Cx) (U : State) (H : Heap) : Prop := (fwF U ∧ ∀ q ∈ strL, vk_R q.1 q.2.1 q.2.2.1 (xO C q.2.2.2) U) ∧
  (∀ w, isStr w → va_O "java/lang/String" (xO C (2000 + w)) (xAl C) U H ∧ va_OF "java/lang/String" "coder" "B" (.int 0) (xO C (2000 + w)) (xAl C) U H ∧ va_OF "java/lang/String" "value" "[B" (.ref (xO C (2100 + w))) (xO C (2000 + w)) (xAl C) U H ∧ va_T .byte (xO C (2100 + w)) (wlen w) (fun j => .int (Int32.ofInt (wch w j))) (xAl C) U H) ∧
  va_Z "java/lang/String" "COMPACT_STRINGS" "Z" (.int 1) (xAl C) U H ∧ va_Z "jdk/internal/util/Preconditions" "SIOOBE_FORMATTER" "Ljava/util/function/BiFunction;" (sio C) (xAl C) U H
theorem sStr.warm {C : Cx} {s U : State} {H : Heap} (hW : s.WarmedH U.vm) (h : sStr C s H) : sStr C U H :=
  ⟨⟨h.1.1.warm hW, fun q hq => (h.1.2 q hq).warm hW⟩, fun w hw => ⟨(h.2.1 w hw).1.moved hW.alike, (h.2.1 w hw).2.1.moved hW.alike, (h.2.1 w hw).2.2.1.moved hW.alike, (h.2.1 w hw).2.2.2.moved hW.alike⟩, h.2.2.1.moved hW.alike, h.2.2.2.moved hW.alike⟩
theorem sStr.same {C : Cx} {u U : State} {H : Heap} (e : u.vm = U.vm) (h : sStr C u H) : sStr C U H := by
  have hA : u.vm.Alike U.vm := by rw [e]; exact Vm.Alike.refl _
  exact ⟨⟨h.1.1.same e, fun q hq => (h.1.2 q hq).same e.symm⟩, fun w hw => ⟨(h.2.1 w hw).1.moved hA, (h.2.1 w hw).2.1.moved hA, (h.2.1 w hw).2.2.1.moved hA, (h.2.1 w hw).2.2.2.moved hA⟩, h.2.2.1.moved hA, h.2.2.2.moved hA⟩
theorem sStr.kept {C : Cx} {U : State} {H H1 : Heap} (h : sStr C U H) (hq : ∀ a : Nat, a < H.size → ¬ xAl C a → H1[a]? = H[a]?) : sStr C U H1 :=
  ⟨h.1, fun w hw => ⟨(h.2.1 w hw).1.kept hq, (h.2.1 w hw).2.1.kept hq, (h.2.1 w hw).2.2.1.kept hq, (h.2.1 w hw).2.2.2.kept hq⟩, h.2.2.1.kept hq, h.2.2.2.kept hq⟩
def St (C : Cx) (U : State) (H : Heap) : Prop := va_K (xD C) vwCl (tyl C) U ∧ nwF U ∧ (∀ q ∈ roL C, roC C q.1 q.2 U H) ∧ (∀ q ∈ rsF, va_Z q.1 q.2.1 "[I" (.ref (xO C q.2.2)) (xAl C) U H) ∧ sStat C U H ∧ sStr C U H
theorem St.warm {C : Cx} {s U : State} {H : Heap} (hW : s.WarmedH U.vm) (h : St C s H) : St C U H :=
  ⟨va_K.moved hW.alike h.1, h.2.1.warm hW, fun q hq => (h.2.2.1 q hq).moved hW.alike, fun q hq => (h.2.2.2.1 q hq).moved hW.alike, ⟨h.2.2.2.2.1.1.moved hW.alike, h.2.2.2.2.1.2.moved hW.alike⟩, h.2.2.2.2.2.warm hW⟩
theorem St.same {C : Cx} {u U : State} {H : Heap} (e : u.vm = U.vm) (h : St C u H) : St C U H := by
  have hA : u.vm.Alike U.vm := by rw [e]; exact Vm.Alike.refl _
  exact ⟨va_K.moved hA h.1, h.2.1.same e, fun q hq => (h.2.2.1 q hq).moved hA, fun q hq => (h.2.2.2.1 q hq).moved hA, ⟨h.2.2.2.2.1.1.moved hA, h.2.2.2.2.1.2.moved hA⟩, h.2.2.2.2.2.same e⟩
theorem St.kept {C : Cx} {U : State} {H H1 : Heap} (h : St C U H) (hq : ∀ a : Nat, a < H.size → ¬ xAl C a → H1[a]? = H[a]?) : St C U H1 :=
  ⟨h.1, h.2.1, fun q hm => (h.2.2.1 q hm).kept hq, fun q hm => (h.2.2.2.1 q hm).kept hq, ⟨h.2.2.2.2.1.1.kept hq, h.2.2.2.2.1.2.kept hq⟩, h.2.2.2.2.2.kept hq⟩
/-! ===== the moving part ===== -/
/-- the first nx objects lie there and hold what h says; the old rows' contents are h's too; nothing else was made before the last of them -/
def HPh (C : Cx) (nx : Nat) (h : Hp) (H : Heap) : Prop := va_P (xD C) vwCl (wl C nx h) H ∧ (∀ i, 1000 ≤ i → ∀ j, gI h i j = xV C i j) ∧ xB C + nx ≤ H.size ∧ H.size = xB C + nx ∧ (nx ≤ KC C ∧ KC C ≤ 1000 ∧ ∀ c, Sum.inl c ∈ xE C → c < 14) ∧ ∀ i, nx ≤ i → i < KC C → ∀ j, gI h i j = 0 ∧ gR h i j = none ∧ gL h i j = 0 ∧ gD h i j = 0
/-! ===== methods ===== -/
abbrev Mk : Type := MethodName × ByteArray × Nat × Option FieldType × List (Nat × Nat × Nat × Nat)
abbrev mY (M : Mk) : MethodName := M.1
abbrev mB (M : Mk) : ByteArray := M.2.1
abbrev mL (M : Mk) : Nat := M.2.2.1
abbrev mR (M : Mk) : Option FieldType := M.2.2.2.1
abbrev mH (M : Mk) : List (Nat × Nat × Nat × Nat) := M.2.2.2.2
/-- what a StringBuilder's call of a private method of its superclass comes to -/
def asbP (n d : String) : MethodName := ⟨"java/lang/AbstractStringBuilder", n, d⟩
def asbL : List MethodName := [asbP "ensureCapacityInternal" "(I)V", asbP "newCapacity" "(I)I", asbP "putStringAt" "(ILjava/lang/String;)V", asbP "inflateIfNeededFor" "(Ljava/lang/String;)V"]
def sel4 : List Cond := asbL.map fun y => .selects "java/lang/StringBuilder" y y
def lw_all : List Cond := (sel4 ++ lw_tbl).filter goodWord
theorem lw_all_mem {w : Cond} (h : w ∈ lw_tbl) (g : goodWord w = true) : w ∈ lw_all := List.mem_filter.mpr ⟨List.mem_append_right _ h, g⟩
theorem lw_all_sel {w : Cond} (h : w ∈ sel4) (g : goodWord w = true) : w ∈ lw_all := List.mem_filter.mpr ⟨List.mem_append_left _ h, g⟩
theorem lw_all_good {w : Cond} (h : w ∈ lw_all) : goodWord w = true := (List.mem_filter.mp h).2
def mW (M : Mk) : List Cond := .code (mY M) (mB M) (mL M) (mR M) :: lw_all
def rmF (d mc ms : Nat) : Room := { frames := d, cells := mc, slots := ms, locals := 70 * d }
/-- what holds all through a method's run -/
def Cz (C : Cx) (M : Mk) (p : Program) (l : Launch) (s : State) (m : MethodId) (args : Array Value) (meth : Method) (c : Code) : Prop :=
  (p.tables.exec = Jvm.exec ∧ c.code = mB M ∧ meth.sig.returnType = mR M ∧ c.maxLocals = mL M ∧ s.vm.findClass (mY M).cls = some m.cls) ∧ (∀ w ∈ lw_all, w.before args s = true) ∧ (meth.locks = false ∧ meth.name = (mY M).name ∧ l.stackTraces = false ∧ c.exceptionTable.toList = tableOf (mH M)) ∧ St C s s.heap ∧ xB C ≤ s.heap.size
/-- which instruction hands a value back -/
def rtOK (ret : Option FieldType) (v : Option Value) (i : Instr) : Prop :=
  (∃ x : Int32, v = some (.int x) ∧ i = .ireturn ∧ ∃ ty, ret = some ty ∧ narrow ty (.int x) = .int x) ∨ (v = none ∧ i = .return_ ∧ ret = none) ∨ (∃ a : Nat, v = some (.ref a) ∧ i = .areturn ∧ ∃ ty, ret = some ty ∧ isR ty = true) ∨ (v = some .null ∧ i = .areturn ∧ ∃ ty, ret = some ty ∧ isR ty = true) ∨ (∃ x : UInt32, v = some (.float x) ∧ i = .freturn ∧ ret = some .float) ∨ (∃ x : Int64, v = some (.long x) ∧ i = .lreturn ∧ ret = some .long)
def lm (C : Cx) (lv : List (Nat × Value)) : List (Nat × Value) := lv.map (fun q => (q.1, up C q.2))
/-- a walk over the abstract heap -/
def ww (C : Cx) (M : Mk) (d mc ms ne : Nat) (Qr : Option Value → Hp → Prop) (Qx : String → Hp → Prop) (nx k n pc : Nat) (lv : List (Nat × Value)) (st : List Value) (h : Hp) : Prop :=
  ∀ (p : Program) (l : Launch) (e : Env) (s : State) (m : MethodId) (args : Array Value) (below : List Frame) (meth : Method) (c : Code) (Fin : State → Prop), Cz C M p l s m args meth c →
    (∀ (v : Option Value) (h' : Hp) (H : Heap) (locs : List Loc) (ls : Array Slot) (pc k' n' : Nat) (i : Instr), Qr v h' → HPh C ne h' H → va_S (xAl C) s.heap H locs → k' ≤ mc → n' ≤ ms → decode c.code pc = .ok (i, 1) → rtOK (mR M) v i → W p l e (rmF d mc ms) s m args below meth c H locs k' n' Fin (F0 m pc ls ((v.map (up C)).toList))) →
    (∀ (E : String) (ce : Cell) (q : Addr) (h' : Hp) (H : Heap) (locs : List Loc) (ls : Array Slot) (rest : List Value) (pc k' n' : Nat), Qx E h' → HPh C ne h' H → va_S (xAl C) s.heap H locs → k' ≤ mc → n' ≤ ms → (∀ x ∈ c.exceptionTable.toList, covers x pc = false) → H[q]? = some ce → ce.vm = .none → s.vm.findClass E = some ce.cls → vx_W p l e (rmF d mc ms) s m args below meth c H locs k' n' Fin (F0 m pc ls rest) q) →
    (∀ (E : String) (ce : Cell) (q : Addr) (h' : Hp) (U : State) (locs : List Loc) (k' n' : Nat), Qx E h' → HPh C ne h' U.heap → va_F (xAl C) s U → U.status = .running → Ended U below (.threw q) → U.heap[q]? = some ce → ce.vm = .none → s.vm.findClass E = some ce.cls → s.WarmedH U.vm → s.sameButNew ({ U with vm := s.vm } : State) locs k' n' → (∀ z ∈ locs, xAl C z.base) → k' ≤ mc → n' ≤ ms → Fin U) →
    ∀ (H : Heap) (locs : List Loc) (ls : Array Slot), HPh C nx h H → va_S (xAl C) s.heap H locs → lv_has ls (mL M) (lm C lv) → W p l e (rmF d mc ms) s m args below meth c H locs k n Fin (F0 m pc ls (st.map (up C)))
/-- a method's contract over the abstract heap: nx objects before, ne behind -/
def QC (C : Cx) (ne : Nat) (Qr : Option Value → Hp → Prop) : Array Value → State → Outcome → State → Prop := fun _ st o t => ∃ (v : Option Value) (h' : Hp), o = .returned (v.map (up C)) ∧ Qr v h' ∧ HPh C ne h' t.heap ∧ va_F (xAl C) st t
def XC (C : Cx) (ne : Nat) (Qx : String → Hp → Prop) : String → State → State → Prop := fun E st t => ∃ h' : Hp, Qx E h' ∧ HPh C ne h' t.heap ∧ va_F (xAl C) st t
def PB (C : Cx) (nx : Nat) (h : Hp) : State → Prop := fun U => St C U U.heap ∧ HPh C nx h U.heap ∧ xB C ≤ U.heap.size
def mm (C : Cx) (M : Mk) (d mc ms nx ne : Nat) (args : List Value) (h : Hp) (Qr : Option Value → Hp → Prop) (Qx : String → Hp → Prop) : Prop :=
  ∀ l : Launch, l.stackTraces = false → vx_Met l (mY M) (mW M) (rmF d mc ms) (va_Pc (args.map (up C)) (PB C nx h)) (QC C ne Qr) (XC C ne Qx) mc ms (xAl C)
theorem lm_at (C : Cx) {lv : List (Nat × Value)} {k i : Nat} {v : Value} (hk : lv[k]? = some (i, v)) : (lm C lv)[k]? = some (i, up C v) := by
  simp [lm, hk]
theorem lm_set1 (C : Cx) (lv : List (Nat × Value)) (i : Nat) (v : Value) : (i, up C v) :: (lm C lv).filter (fun q => !(q.1 == i) && !(q.1 + 1 == i && q.2.category == 2)) = lm C ((i, v) :: lv.filter (fun q => !(q.1 == i) && !(q.1 + 1 == i && q.2.category == 2))) := by
  simp only [lm, List.map_cons, List.cons.injEq, true_and]
  induction lv with
  | nil => rfl
  | cons a t ih =>
    simp only [List.map_cons, List.filter_cons, up_cat]
    split
    · rw [List.map_cons, ih]
    · exact ih
theorem lm_set2 (C : Cx) (lv : List (Nat × Value)) (i : Nat) (v : Value) : (i, up C v) :: (lm C lv).filter (fun q => !(q.1 == i) && (!(q.1 == i + 1) && !(q.1 + 1 == i && q.2.category == 2))) = lm C ((i, v) :: lv.filter (fun q => !(q.1 == i) && (!(q.1 == i + 1) && !(q.1 + 1 == i && q.2.category == 2)))) := by
  simp only [lm, List.map_cons, List.cons.injEq, true_and]
  induction lv with
  | nil => rfl
  | cons a t ih =>
    simp only [List.map_cons, List.filter_cons, up_cat]
    split
    · rw [List.map_cons, ih]
    · exact ih
theorem lm_pick {C : Cx} {lv lv' : List (Nat × Value)} {ks : List Nat} (h : lv_pick lv ks = lv') : lv_pick (lm C lv) ks = lm C lv' := by
  subst h
  unfold lv_pick lm
  rw [List.map_filterMap]
  congr 1
  funext q
  exact List.getElem?_map
section WW
variable {C : Cx} {M : Mk} {d mc ms ne : Nat} {Qr : Option Value → Hp → Prop} {Qx : String → Hp → Prop} {nx k n pc : Nat} {lv lv' : List (Nat × Value)} {st : List Value} {h : Hp}
/-- fewer locals, in another order -/
theorem w_lv (ks : List Nat) (hl : lv_pick lv ks = lv') (kk : ww C M d mc ms ne Qr Qx nx k n pc lv' st h) : ww C M d mc ms ne Qr Qx nx k n pc lv st h :=
  fun p l e s m args below meth c Fin cz hr hx hzz H locs ls hP hS hL => kk p l e s m args below meth c Fin cz hr hx hzz H locs ls hP hS (lv_sub hL ks (lm_pick hl))

theorem w_iconst {z : Int} {v : Int32} (hd : decode (mB M) pc = .ok (.iconst z, 1)) (hv : Int32.ofInt z = v) (kk : ww C M d mc ms ne Qr Qx nx k n (pc + 1) lv (.int v :: st) h) : ww C M d mc ms ne Qr Qx nx k n pc lv (st) h := by
  intro p l e s m args below meth c Fin cz hr hx hzz H locs ls hP hS hL
  exact lv_iconst cz.1.1 cz.1.2.1 hd hv (kk p l e s m args below meth c Fin cz hr hx hzz H locs ls hP hS hL)
theorem w_bipush {z : Int} {v : Int32} (hd : decode (mB M) pc = .ok (.bipush z, 2)) (hv : (Int8.ofInt z).toInt32 = v) (kk : ww C M d mc ms ne Qr Qx nx k n (pc + 2) lv (.int v :: st) h) : ww C M d mc ms ne Qr Qx nx k n pc lv (st) h := by
  intro p l e s m args below meth c Fin cz hr hx hzz H locs ls hP hS hL
  exact lv_bipush cz.1.1 cz.1.2.1 hd hv (kk p l e s m args below meth c Fin cz hr hx hzz H locs ls hP hS hL)
theorem w_sipush {z : Int} {v : Int32} (hd : decode (mB M) pc = .ok (.sipush z, 3)) (hv : (Int16.ofInt z).toInt32 = v) (kk : ww C M d mc ms ne Qr Qx nx k n (pc + 3) lv (.int v :: st) h) : ww C M d mc ms ne Qr Qx nx k n pc lv (st) h := by
  intro p l e s m args below meth c Fin cz hr hx hzz H locs ls hP hS hL
  exact lv_sipush cz.1.1 cz.1.2.1 hd hv (kk p l e s m args below meth c Fin cz hr hx hzz H locs ls hP hS hL)
theorem w_lconst {z : Fin 2} {v : Int64} (hd : decode (mB M) pc = .ok (.lconst z, 1)) (hv : Int64.ofNat (z : Nat) = v) (kk : ww C M d mc ms ne Qr Qx nx k n (pc + 1) lv (.long v :: st) h) : ww C M d mc ms ne Qr Qx nx k n pc lv (st) h := by
  intro p l e s m args below meth c Fin cz hr hx hzz H locs ls hP hS hL
  exact lv_lconst cz.1.1 cz.1.2.1 hd hv (kk p l e s m args below meth c Fin cz hr hx hzz H locs ls hP hS hL)
theorem w_iload_n (q : Nat) {z : Fin 4} {i : Nat} {x : Int32} (hd : decode (mB M) pc = .ok (.iload_n z, 1)) (hi : (z : Nat) = i) (hl : lv[q]? = some (i, .int x)) (kk : ww C M d mc ms ne Qr Qx nx k n (pc + 1) lv (.int x :: st) h) : ww C M d mc ms ne Qr Qx nx k n pc lv (st) h := by
  intro p l e s m args below meth c Fin cz hr hx hzz H locs ls hP hS hL
  exact lv_iload_n cz.1.1 cz.1.2.1 hd hi (lv_at hL q (lm_at C hl)) (kk p l e s m args below meth c Fin cz hr hx hzz H locs ls hP hS hL)
theorem w_iload (q : Nat) {i : Nat} {x : Int32} (hd : decode (mB M) pc = .ok (.iload i, 2)) (hl : lv[q]? = some (i, .int x)) (kk : ww C M d mc ms ne Qr Qx nx k n (pc + 2) lv (.int x :: st) h) : ww C M d mc ms ne Qr Qx nx k n pc lv (st) h := by
  intro p l e s m args below meth c Fin cz hr hx hzz H locs ls hP hS hL
  exact lv_iload cz.1.1 cz.1.2.1 hd (lv_at hL q (lm_at C hl)) (kk p l e s m args below meth c Fin cz hr hx hzz H locs ls hP hS hL)
theorem w_lload_n (q : Nat) {z : Fin 4} {i : Nat} {x : Int64} (hd : decode (mB M) pc = .ok (.lload_n z, 1)) (hi : (z : Nat) = i) (hl : lv[q]? = some (i, .long x)) (kk : ww C M d mc ms ne Qr Qx nx k n (pc + 1) lv (.long x :: st) h) : ww C M d mc ms ne Qr Qx nx k n pc lv (st) h := by
  intro p l e s m args below meth c Fin cz hr hx hzz H locs ls hP hS hL
  exact lv_lload_n cz.1.1 cz.1.2.1 hd hi (lv_at hL q (lm_at C hl)) (kk p l e s m args below meth c Fin cz hr hx hzz H locs ls hP hS hL)
theorem w_lload (q : Nat) {i : Nat} {x : Int64} (hd : decode (mB M) pc = .ok (.lload i, 2)) (hl : lv[q]? = some (i, .long x)) (kk : ww C M d mc ms ne Qr Qx nx k n (pc + 2) lv (.long x :: st) h) : ww C M d mc ms ne Qr Qx nx k n pc lv (st) h := by
  intro p l e s m args below meth c Fin cz hr hx hzz H locs ls hP hS hL
  exact lv_lload cz.1.1 cz.1.2.1 hd (lv_at hL q (lm_at C hl)) (kk p l e s m args below meth c Fin cz hr hx hzz H locs ls hP hS hL)
theorem w_aload_n (q : Nat) {z : Fin 4} {i : Nat} {x : Nat} (hd : decode (mB M) pc = .ok (.aload_n z, 1)) (hi : (z : Nat) = i) (hl : lv[q]? = some (i, .ref x)) (kk : ww C M d mc ms ne Qr Qx nx k n (pc + 1) lv (.ref x :: st) h) : ww C M d mc ms ne Qr Qx nx k n pc lv (st) h := by
  intro p l e s m args below meth c Fin cz hr hx hzz H locs ls hP hS hL
  exact lv_aload_n cz.1.1 cz.1.2.1 hd hi (lv_at hL q (lm_at C hl)) (kk p l e s m args below meth c Fin cz hr hx hzz H locs ls hP hS hL)
theorem w_aload (q : Nat) {i : Nat} {x : Nat} (hd : decode (mB M) pc = .ok (.aload i, 2)) (hl : lv[q]? = some (i, .ref x)) (kk : ww C M d mc ms ne Qr Qx nx k n (pc + 2) lv (.ref x :: st) h) : ww C M d mc ms ne Qr Qx nx k n pc lv (st) h := by
  intro p l e s m args below meth c Fin cz hr hx hzz H locs ls hP hS hL
  exact lv_aload cz.1.1 cz.1.2.1 hd (lv_at hL q (lm_at C hl)) (kk p l e s m args below meth c Fin cz hr hx hzz H locs ls hP hS hL)
theorem w_fload_n (q : Nat) {z : Fin 4} {i : Nat} {x : UInt32} (hd : decode (mB M) pc = .ok (.fload_n z, 1)) (hi : (z : Nat) = i) (hl : lv[q]? = some (i, .float x)) (kk : ww C M d mc ms ne Qr Qx nx k n (pc + 1) lv (.float x :: st) h) : ww C M d mc ms ne Qr Qx nx k n pc lv (st) h := by
  intro p l e s m args below meth c Fin cz hr hx hzz H locs ls hP hS hL
  exact lv_fload_n cz.1.1 cz.1.2.1 hd hi (lv_at hL q (lm_at C hl)) (kk p l e s m args below meth c Fin cz hr hx hzz H locs ls hP hS hL)
theorem w_fload (q : Nat) {i : Nat} {x : UInt32} (hd : decode (mB M) pc = .ok (.fload i, 2)) (hl : lv[q]? = some (i, .float x)) (kk : ww C M d mc ms ne Qr Qx nx k n (pc + 2) lv (.float x :: st) h) : ww C M d mc ms ne Qr Qx nx k n pc lv (st) h := by
  intro p l e s m args below meth c Fin cz hr hx hzz H locs ls hP hS hL
  exact lv_fload cz.1.1 cz.1.2.1 hd (lv_at hL q (lm_at C hl)) (kk p l e s m args below meth c Fin cz hr hx hzz H locs ls hP hS hL)
theorem w_dload_n (q : Nat) {z : Fin 4} {i : Nat} {x : UInt64} (hd : decode (mB M) pc = .ok (.dload_n z, 1)) (hi : (z : Nat) = i) (hl : lv[q]? = some (i, .double x)) (kk : ww C M d mc ms ne Qr Qx nx k n (pc + 1) lv (.double x :: st) h) : ww C M d mc ms ne Qr Qx nx k n pc lv (st) h := by
  intro p l e s m args below meth c Fin cz hr hx hzz H locs ls hP hS hL
  exact lv_dload_n cz.1.1 cz.1.2.1 hd hi (lv_at hL q (lm_at C hl)) (kk p l e s m args below meth c Fin cz hr hx hzz H locs ls hP hS hL)
theorem w_dload (q : Nat) {i : Nat} {x : UInt64} (hd : decode (mB M) pc = .ok (.dload i, 2)) (hl : lv[q]? = some (i, .double x)) (kk : ww C M d mc ms ne Qr Qx nx k n (pc + 2) lv (.double x :: st) h) : ww C M d mc ms ne Qr Qx nx k n pc lv (st) h := by
  intro p l e s m args below meth c Fin cz hr hx hzz H locs ls hP hS hL
  exact lv_dload cz.1.1 cz.1.2.1 hd (lv_at hL q (lm_at C hl)) (kk p l e s m args below meth c Fin cz hr hx hzz H locs ls hP hS hL)
theorem w_istore_n {z : Fin 4} {i : Nat} {x : Int32} (hd : decode (mB M) pc = .ok (.istore_n z, 1)) (hi : (z : Nat) = i) (hn : i < mL M) (hl : (i, Value.int x) :: lv.filter (fun q => !(q.1 == i) && !(q.1 + 1 == i && q.2.category == 2)) = lv') (kk : ww C M d mc ms ne Qr Qx nx k n (pc + 1) lv' st h) : ww C M d mc ms ne Qr Qx nx k n pc lv (.int x :: st) h := by
  intro p l e s m args below meth c Fin cz hr hx hzz H locs ls hP hS hL
  refine lv_istore_n (lv' := lm C lv') cz.1.1 cz.1.2.1 hd hi hL hn (by subst hl; exact lm_set1 C lv i (.int x)) (fun ls hL => ?_)
  exact kk p l e s m args below meth c Fin cz hr hx hzz H locs ls hP hS hL
theorem w_istore {i : Nat} {x : Int32} (hd : decode (mB M) pc = .ok (.istore i, 2)) (hn : i < mL M) (hl : (i, Value.int x) :: lv.filter (fun q => !(q.1 == i) && !(q.1 + 1 == i && q.2.category == 2)) = lv') (kk : ww C M d mc ms ne Qr Qx nx k n (pc + 2) lv' st h) : ww C M d mc ms ne Qr Qx nx k n pc lv (.int x :: st) h := by
  intro p l e s m args below meth c Fin cz hr hx hzz H locs ls hP hS hL
  refine lv_istore (lv' := lm C lv') cz.1.1 cz.1.2.1 hd hL hn (by subst hl; exact lm_set1 C lv i (.int x)) (fun ls hL => ?_)
  exact kk p l e s m args below meth c Fin cz hr hx hzz H locs ls hP hS hL
theorem w_lstore_n {z : Fin 4} {i : Nat} {x : Int64} (hd : decode (mB M) pc = .ok (.lstore_n z, 1)) (hi : (z : Nat) = i) (hn : i + 1 < mL M) (hl : (i, Value.long x) :: lv.filter (fun q => !(q.1 == i) && (!(q.1 == i + 1) && !(q.1 + 1 == i && q.2.category == 2))) = lv') (kk : ww C M d mc ms ne Qr Qx nx k n (pc + 1) lv' st h) : ww C M d mc ms ne Qr Qx nx k n pc lv (.long x :: st) h := by
  intro p l e s m args below meth c Fin cz hr hx hzz H locs ls hP hS hL
  refine lv_lstore_n (lv' := lm C lv') cz.1.1 cz.1.2.1 hd hi hL hn (by subst hl; exact lm_set2 C lv i (.long x)) (fun ls hL => ?_)
  exact kk p l e s m args below meth c Fin cz hr hx hzz H locs ls hP hS hL
theorem w_lstore {i : Nat} {x : Int64} (hd : decode (mB M) pc = .ok (.lstore i, 2)) (hn : i + 1 < mL M) (hl : (i, Value.long x) :: lv.filter (fun q => !(q.1 == i) && (!(q.1 == i + 1) && !(q.1 + 1 == i && q.2.category == 2))) = lv') (kk : ww C M d mc ms ne Qr Qx nx k n (pc + 2) lv' st h) : ww C M d mc ms ne Qr Qx nx k n pc lv (.long x :: st) h := by
  intro p l e s m args below meth c Fin cz hr hx hzz H locs ls hP hS hL
  refine lv_lstore (lv' := lm C lv') cz.1.1 cz.1.2.1 hd hL hn (by subst hl; exact lm_set2 C lv i (.long x)) (fun ls hL => ?_)
  exact kk p l e s m args below meth c Fin cz hr hx hzz H locs ls hP hS hL
theorem w_astore_n {z : Fin 4} {i : Nat} {x : Nat} (hd : decode (mB M) pc = .ok (.astore_n z, 1)) (hi : (z : Nat) = i) (hn : i < mL M) (hl : (i, Value.ref x) :: lv.filter (fun q => !(q.1 == i) && !(q.1 + 1 == i && q.2.category == 2)) = lv') (kk : ww C M d mc ms ne Qr Qx nx k n (pc + 1) lv' st h) : ww C M d mc ms ne Qr Qx nx k n pc lv (.ref x :: st) h := by
  intro p l e s m args below meth c Fin cz hr hx hzz H locs ls hP hS hL
  refine lv_astore_n (lv' := lm C lv') cz.1.1 cz.1.2.1 hd hi hL hn (by subst hl; exact lm_set1 C lv i (.ref x)) (fun ls hL => ?_)
  exact kk p l e s m args below meth c Fin cz hr hx hzz H locs ls hP hS hL
theorem w_astore {i : Nat} {x : Nat} (hd : decode (mB M) pc = .ok (.astore i, 2)) (hn : i < mL M) (hl : (i, Value.ref x) :: lv.filter (fun q => !(q.1 == i) && !(q.1 + 1 == i && q.2.category == 2)) = lv') (kk : ww C M d mc ms ne Qr Qx nx k n (pc + 2) lv' st h) : ww C M d mc ms ne Qr Qx nx k n pc lv (.ref x :: st) h := by
  intro p l e s m args below meth c Fin cz hr hx hzz H locs ls hP hS hL
  refine lv_astore (lv' := lm C lv') cz.1.1 cz.1.2.1 hd hL hn (by subst hl; exact lm_set1 C lv i (.ref x)) (fun ls hL => ?_)
  exact kk p l e s m args below meth c Fin cz hr hx hzz H locs ls hP hS hL
theorem w_fstore_n {z : Fin 4} {i : Nat} {x : UInt32} (hd : decode (mB M) pc = .ok (.fstore_n z, 1)) (hi : (z : Nat) = i) (hn : i < mL M) (hl : (i, Value.float x) :: lv.filter (fun q => !(q.1 == i) && !(q.1 + 1 == i && q.2.category == 2)) = lv') (kk : ww C M d mc ms ne Qr Qx nx k n (pc + 1) lv' st h) : ww C M d mc ms ne Qr Qx nx k n pc lv (.float x :: st) h := by
  intro p l e s m args below meth c Fin cz hr hx hzz H locs ls hP hS hL
  refine lv_fstore_n (lv' := lm C lv') cz.1.1 cz.1.2.1 hd hi hL hn (by subst hl; exact lm_set1 C lv i (.float x)) (fun ls hL => ?_)
  exact kk p l e s m args below meth c Fin cz hr hx hzz H locs ls hP hS hL
theorem w_fstore {i : Nat} {x : UInt32} (hd : decode (mB M) pc = .ok (.fstore i, 2)) (hn : i < mL M) (hl : (i, Value.float x) :: lv.filter (fun q => !(q.1 == i) && !(q.1 + 1 == i && q.2.category == 2)) = lv') (kk : ww C M d mc ms ne Qr Qx nx k n (pc + 2) lv' st h) : ww C M d mc ms ne Qr Qx nx k n pc lv (.float x :: st) h := by
  intro p l e s m args below meth c Fin cz hr hx hzz H locs ls hP hS hL
  refine lv_fstore (lv' := lm C lv') cz.1.1 cz.1.2.1 hd hL hn (by subst hl; exact lm_set1 C lv i (.float x)) (fun ls hL => ?_)
  exact kk p l e s m args below meth c Fin cz hr hx hzz H locs ls hP hS hL
theorem w_dstore_n {z : Fin 4} {i : Nat} {x : UInt64} (hd : decode (mB M) pc = .ok (.dstore_n z, 1)) (hi : (z : Nat) = i) (hn : i + 1 < mL M) (hl : (i, Value.double x) :: lv.filter (fun q => !(q.1 == i) && (!(q.1 == i + 1) && !(q.1 + 1 == i && q.2.category == 2))) = lv') (kk : ww C M d mc ms ne Qr Qx nx k n (pc + 1) lv' st h) : ww C M d mc ms ne Qr Qx nx k n pc lv (.double x :: st) h := by
  intro p l e s m args below meth c Fin cz hr hx hzz H locs ls hP hS hL
  refine lv_dstore_n (lv' := lm C lv') cz.1.1 cz.1.2.1 hd hi hL hn (by subst hl; exact lm_set2 C lv i (.double x)) (fun ls hL => ?_)
  exact kk p l e s m args below meth c Fin cz hr hx hzz H locs ls hP hS hL
theorem w_dstore {i : Nat} {x : UInt64} (hd : decode (mB M) pc = .ok (.dstore i, 2)) (hn : i + 1 < mL M) (hl : (i, Value.double x) :: lv.filter (fun q => !(q.1 == i) && (!(q.1 == i + 1) && !(q.1 + 1 == i && q.2.category == 2))) = lv') (kk : ww C M d mc ms ne Qr Qx nx k n (pc + 2) lv' st h) : ww C M d mc ms ne Qr Qx nx k n pc lv (.double x :: st) h := by
  intro p l e s m args below meth c Fin cz hr hx hzz H locs ls hP hS hL
  refine lv_dstore (lv' := lm C lv') cz.1.1 cz.1.2.1 hd hL hn (by subst hl; exact lm_set2 C lv i (.double x)) (fun ls hL => ?_)
  exact kk p l e s m args below meth c Fin cz hr hx hzz H locs ls hP hS hL
theorem w_iinc (q : Nat) {i : Nat} {z : Int} {x v : Int32} (hd : decode (mB M) pc = .ok (.iinc i z, 3)) (hq : lv[q]? = some (i, .int x)) (hv : x + Int32.ofInt z = v) (hn : i < mL M) (hl : (i, Value.int v) :: lv.filter (fun q => !(q.1 == i) && !(q.1 + 1 == i && q.2.category == 2)) = lv') (kk : ww C M d mc ms ne Qr Qx nx k n (pc + 3) lv' st h) : ww C M d mc ms ne Qr Qx nx k n pc lv (st) h := by
  intro p l e s m args below meth c Fin cz hr hx hzz H locs ls hP hS hL
  refine lv_iinc (lv' := lm C lv') (k := q) cz.1.1 cz.1.2.1 hd hL (lm_at C hq) hv hn (by subst hl; exact lm_set1 C lv i (.int v)) (fun ls hL => ?_)
  exact kk p l e s m args below meth c Fin cz hr hx hzz H locs ls hP hS hL
theorem w_iadd {x y : Int32} (hd : decode (mB M) pc = .ok (.iadd, 1)) (kk : ww C M d mc ms ne Qr Qx nx k n (pc + 1) lv (.int (x + y) :: st) h) : ww C M d mc ms ne Qr Qx nx k n pc lv (.int y :: .int x :: st) h := by
  intro p l e s m args below meth c Fin cz hr hx hzz H locs ls hP hS hL
  exact lv_iadd cz.1.1 cz.1.2.1 hd (kk p l e s m args below meth c Fin cz hr hx hzz H locs ls hP hS hL)
theorem w_isub {x y : Int32} (hd : decode (mB M) pc = .ok (.isub, 1)) (kk : ww C M d mc ms ne Qr Qx nx k n (pc + 1) lv (.int (x - y) :: st) h) : ww C M d mc ms ne Qr Qx nx k n pc lv (.int y :: .int x :: st) h := by
  intro p l e s m args below meth c Fin cz hr hx hzz H locs ls hP hS hL
  exact lv_isub cz.1.1 cz.1.2.1 hd (kk p l e s m args below meth c Fin cz hr hx hzz H locs ls hP hS hL)
theorem w_imul {x y : Int32} (hd : decode (mB M) pc = .ok (.imul, 1)) (kk : ww C M d mc ms ne Qr Qx nx k n (pc + 1) lv (.int (x * y) :: st) h) : ww C M d mc ms ne Qr Qx nx k n pc lv (.int y :: .int x :: st) h := by
  intro p l e s m args below meth c Fin cz hr hx hzz H locs ls hP hS hL
  exact lv_imul cz.1.1 cz.1.2.1 hd (kk p l e s m args below meth c Fin cz hr hx hzz H locs ls hP hS hL)
theorem w_iand {x y : Int32} (hd : decode (mB M) pc = .ok (.iand, 1)) (kk : ww C M d mc ms ne Qr Qx nx k n (pc + 1) lv (.int (x &&& y) :: st) h) : ww C M d mc ms ne Qr Qx nx k n pc lv (.int y :: .int x :: st) h := by
  intro p l e s m args below meth c Fin cz hr hx hzz H locs ls hP hS hL
  exact lv_iand cz.1.1 cz.1.2.1 hd (kk p l e s m args below meth c Fin cz hr hx hzz H locs ls hP hS hL)
theorem w_ior {x y : Int32} (hd : decode (mB M) pc = .ok (.ior, 1)) (kk : ww C M d mc ms ne Qr Qx nx k n (pc + 1) lv (.int (x ||| y) :: st) h) : ww C M d mc ms ne Qr Qx nx k n pc lv (.int y :: .int x :: st) h := by
  intro p l e s m args below meth c Fin cz hr hx hzz H locs ls hP hS hL
  exact lv_ior cz.1.1 cz.1.2.1 hd (kk p l e s m args below meth c Fin cz hr hx hzz H locs ls hP hS hL)
theorem w_ixor {x y : Int32} (hd : decode (mB M) pc = .ok (.ixor, 1)) (kk : ww C M d mc ms ne Qr Qx nx k n (pc + 1) lv (.int (x ^^^ y) :: st) h) : ww C M d mc ms ne Qr Qx nx k n pc lv (.int y :: .int x :: st) h := by
  intro p l e s m args below meth c Fin cz hr hx hzz H locs ls hP hS hL
  exact lv_ixor cz.1.1 cz.1.2.1 hd (kk p l e s m args below meth c Fin cz hr hx hzz H locs ls hP hS hL)
theorem w_ladd {x y : Int64} (hd : decode (mB M) pc = .ok (.ladd, 1)) (kk : ww C M d mc ms ne Qr Qx nx k n (pc + 1) lv (.long (x + y) :: st) h) : ww C M d mc ms ne Qr Qx nx k n pc lv (.long y :: .long x :: st) h := by
  intro p l e s m args below meth c Fin cz hr hx hzz H locs ls hP hS hL
  exact lv_ladd cz.1.1 cz.1.2.1 hd (kk p l e s m args below meth c Fin cz hr hx hzz H locs ls hP hS hL)
theorem w_lsub {x y : Int64} (hd : decode (mB M) pc = .ok (.lsub, 1)) (kk : ww C M d mc ms ne Qr Qx nx k n (pc + 1) lv (.long (x - y) :: st) h) : ww C M d mc ms ne Qr Qx nx k n pc lv (.long y :: .long x :: st) h := by
  intro p l e s m args below meth c Fin cz hr hx hzz H locs ls hP hS hL
  exact lv_lsub cz.1.1 cz.1.2.1 hd (kk p l e s m args below meth c Fin cz hr hx hzz H locs ls hP hS hL)
theorem w_lmul {x y : Int64} (hd : decode (mB M) pc = .ok (.lmul, 1)) (kk : ww C M d mc ms ne Qr Qx nx k n (pc + 1) lv (.long (x * y) :: st) h) : ww C M d mc ms ne Qr Qx nx k n pc lv (.long y :: .long x :: st) h := by
  intro p l e s m args below meth c Fin cz hr hx hzz H locs ls hP hS hL
  exact lv_lmul cz.1.1 cz.1.2.1 hd (kk p l e s m args below meth c Fin cz hr hx hzz H locs ls hP hS hL)
theorem w_land {x y : Int64} (hd : decode (mB M) pc = .ok (.land, 1)) (kk : ww C M d mc ms ne Qr Qx nx k n (pc + 1) lv (.long (x &&& y) :: st) h) : ww C M d mc ms ne Qr Qx nx k n pc lv (.long y :: .long x :: st) h := by
  intro p l e s m args below meth c Fin cz hr hx hzz H locs ls hP hS hL
  exact lv_land cz.1.1 cz.1.2.1 hd (kk p l e s m args below meth c Fin cz hr hx hzz H locs ls hP hS hL)
theorem w_lor {x y : Int64} (hd : decode (mB M) pc = .ok (.lor, 1)) (kk : ww C M d mc ms ne Qr Qx nx k n (pc + 1) lv (.long (x ||| y) :: st) h) : ww C M d mc ms ne Qr Qx nx k n pc lv (.long y :: .long x :: st) h := by
  intro p l e s m args below meth c Fin cz hr hx hzz H locs ls hP hS hL
  exact lv_lor cz.1.1 cz.1.2.1 hd (kk p l e s m args below meth c Fin cz hr hx hzz H locs ls hP hS hL)
theorem w_idiv {x y : Int32} (hd : decode (mB M) pc = .ok (.idiv, 1)) (hz : ¬ y = 0) (kk : ww C M d mc ms ne Qr Qx nx k n (pc + 1) lv (.int (x / y) :: st) h) : ww C M d mc ms ne Qr Qx nx k n pc lv (.int y :: .int x :: st) h := by
  intro p l e s m args below meth c Fin cz hr hx hzz H locs ls hP hS hL
  exact lv_idiv cz.1.1 cz.1.2.1 hd hz (kk p l e s m args below meth c Fin cz hr hx hzz H locs ls hP hS hL)
theorem w_irem {x y : Int32} (hd : decode (mB M) pc = .ok (.irem, 1)) (hz : ¬ y = 0) (kk : ww C M d mc ms ne Qr Qx nx k n (pc + 1) lv (.int (x - x / y * y) :: st) h) : ww C M d mc ms ne Qr Qx nx k n pc lv (.int y :: .int x :: st) h := by
  intro p l e s m args below meth c Fin cz hr hx hzz H locs ls hP hS hL
  exact lv_irem cz.1.1 cz.1.2.1 hd hz (kk p l e s m args below meth c Fin cz hr hx hzz H locs ls hP hS hL)
theorem w_ldiv {x y : Int64} (hd : decode (mB M) pc = .ok (.ldiv, 1)) (hz : ¬ y = 0) (kk : ww C M d mc ms ne Qr Qx nx k n (pc + 1) lv (.long (x / y) :: st) h) : ww C M d mc ms ne Qr Qx nx k n pc lv (.long y :: .long x :: st) h := by
  intro p l e s m args below meth c Fin cz hr hx hzz H locs ls hP hS hL
  exact lv_ldiv cz.1.1 cz.1.2.1 hd hz (kk p l e s m args below meth c Fin cz hr hx hzz H locs ls hP hS hL)
theorem w_lrem {x y : Int64} (hd : decode (mB M) pc = .ok (.lrem, 1)) (hz : ¬ y = 0) (kk : ww C M d mc ms ne Qr Qx nx k n (pc + 1) lv (.long (x - x / y * y) :: st) h) : ww C M d mc ms ne Qr Qx nx k n pc lv (.long y :: .long x :: st) h := by
  intro p l e s m args below meth c Fin cz hr hx hzz H locs ls hP hS hL
  exact lv_lrem cz.1.1 cz.1.2.1 hd hz (kk p l e s m args below meth c Fin cz hr hx hzz H locs ls hP hS hL)
theorem w_ishl {x y : Int32} (hd : decode (mB M) pc = .ok (.ishl, 1)) (kk : ww C M d mc ms ne Qr Qx nx k n (pc + 1) lv (.int (x <<< (y &&& 31)) :: st) h) : ww C M d mc ms ne Qr Qx nx k n pc lv (.int y :: .int x :: st) h := by
  intro p l e s m args below meth c Fin cz hr hx hzz H locs ls hP hS hL
  exact lv_ishl cz.1.1 cz.1.2.1 hd (kk p l e s m args below meth c Fin cz hr hx hzz H locs ls hP hS hL)
theorem w_ishr {x y : Int32} (hd : decode (mB M) pc = .ok (.ishr, 1)) (kk : ww C M d mc ms ne Qr Qx nx k n (pc + 1) lv (.int (x >>> (y &&& 31)) :: st) h) : ww C M d mc ms ne Qr Qx nx k n pc lv (.int y :: .int x :: st) h := by
  intro p l e s m args below meth c Fin cz hr hx hzz H locs ls hP hS hL
  exact lv_ishr cz.1.1 cz.1.2.1 hd (kk p l e s m args below meth c Fin cz hr hx hzz H locs ls hP hS hL)
theorem w_i2l {x : Int32} (hd : decode (mB M) pc = .ok (.i2l, 1)) (kk : ww C M d mc ms ne Qr Qx nx k n (pc + 1) lv (.long x.toInt64 :: st) h) : ww C M d mc ms ne Qr Qx nx k n pc lv (.int x :: st) h := by
  intro p l e s m args below meth c Fin cz hr hx hzz H locs ls hP hS hL
  exact lv_i2l cz.1.1 cz.1.2.1 hd rfl (kk p l e s m args below meth c Fin cz hr hx hzz H locs ls hP hS hL)
theorem w_l2i {x : Int64} (hd : decode (mB M) pc = .ok (.l2i, 1)) (kk : ww C M d mc ms ne Qr Qx nx k n (pc + 1) lv (.int x.toInt32 :: st) h) : ww C M d mc ms ne Qr Qx nx k n pc lv (.long x :: st) h := by
  intro p l e s m args below meth c Fin cz hr hx hzz H locs ls hP hS hL
  exact lv_l2i cz.1.1 cz.1.2.1 hd rfl (kk p l e s m args below meth c Fin cz hr hx hzz H locs ls hP hS hL)
theorem w_i2b {x : Int32} (hd : decode (mB M) pc = .ok (.i2b, 1)) (kk : ww C M d mc ms ne Qr Qx nx k n (pc + 1) lv (.int x.toInt8.toInt32 :: st) h) : ww C M d mc ms ne Qr Qx nx k n pc lv (.int x :: st) h := by
  intro p l e s m args below meth c Fin cz hr hx hzz H locs ls hP hS hL
  exact lv_i2b cz.1.1 cz.1.2.1 hd rfl (kk p l e s m args below meth c Fin cz hr hx hzz H locs ls hP hS hL)
theorem w_lushr {x : Int64} {y : Int32} (hd : decode (mB M) pc = .ok (.lushr, 1)) (kk : ww C M d mc ms ne Qr Qx nx k n (pc + 1) lv (.long ((x.toUInt64 >>> (y.toInt64.toUInt64 &&& Int64.toUInt64 63)).toInt64) :: st) h) : ww C M d mc ms ne Qr Qx nx k n pc lv (.int y :: .long x :: st) h := by
  intro p l e s m args below meth c Fin cz hr hx hzz H locs ls hP hS hL
  exact lv_lushr cz.1.1 cz.1.2.1 hd rfl (kk p l e s m args below meth c Fin cz hr hx hzz H locs ls hP hS hL)
theorem w_lshl {x : Int64} {y : Int32} (hd : decode (mB M) pc = .ok (.lshl, 1)) (kk : ww C M d mc ms ne Qr Qx nx k n (pc + 1) lv (.long (x <<< (y.toInt64 &&& 63)) :: st) h) : ww C M d mc ms ne Qr Qx nx k n pc lv (.int y :: .long x :: st) h := by
  intro p l e s m args below meth c Fin cz hr hx hzz H locs ls hP hS hL
  exact lv_lshl cz.1.1 cz.1.2.1 hd rfl (kk p l e s m args below meth c Fin cz hr hx hzz H locs ls hP hS hL)
theorem w_lshr {x : Int64} {y : Int32} (hd : decode (mB M) pc = .ok (.lshr, 1)) (kk : ww C M d mc ms ne Qr Qx nx k n (pc + 1) lv (.long (x >>> (y.toInt64 &&& 63)) :: st) h) : ww C M d mc ms ne Qr Qx nx k n pc lv (.int y :: .long x :: st) h := by
  intro p l e s m args below meth c Fin cz hr hx hzz H locs ls hP hS hL
  exact lv_lshr cz.1.1 cz.1.2.1 hd rfl (kk p l e s m args below meth c Fin cz hr hx hzz H locs ls hP hS hL)
theorem w_i2f {x : Int32} (hd : decode (mB M) pc = .ok (.i2f, 1)) (kk : ww C M d mc ms ne Qr Qx nx k n (pc + 1) lv (.float (FP.i2f x) :: st) h) : ww C M d mc ms ne Qr Qx nx k n pc lv (.int x :: st) h := by
  intro p l e s m args below meth c Fin cz hr hx hzz H locs ls hP hS hL
  exact lv_i2f cz.1.1 cz.1.2.1 hd (kk p l e s m args below meth c Fin cz hr hx hzz H locs ls hP hS hL)
theorem w_i2d {x : Int32} (hd : decode (mB M) pc = .ok (.i2d, 1)) (kk : ww C M d mc ms ne Qr Qx nx k n (pc + 1) lv (.double (FP.i2d x) :: st) h) : ww C M d mc ms ne Qr Qx nx k n pc lv (.int x :: st) h := by
  intro p l e s m args below meth c Fin cz hr hx hzz H locs ls hP hS hL
  exact lv_i2d cz.1.1 cz.1.2.1 hd (kk p l e s m args below meth c Fin cz hr hx hzz H locs ls hP hS hL)
theorem w_f2d {x : UInt32} (hd : decode (mB M) pc = .ok (.f2d, 1)) (hz : vf_n64 (FP.f2d x)) (kk : ww C M d mc ms ne Qr Qx nx k n (pc + 1) lv (.double (FP.f2d x) :: st) h) : ww C M d mc ms ne Qr Qx nx k n pc lv (.float x :: st) h := by
  intro p l e s m args below meth c Fin cz hr hx hzz H locs ls hP hS hL
  exact lv_f2d cz.1.1 cz.1.2.1 hd hz (kk p l e s m args below meth c Fin cz hr hx hzz H locs ls hP hS hL)
theorem w_fdiv {x y : UInt32} (hd : decode (mB M) pc = .ok (.fdiv, 1)) (hz : vf_n32 (FP.fdiv x y)) (kk : ww C M d mc ms ne Qr Qx nx k n (pc + 1) lv (.float (FP.fdiv x y) :: st) h) : ww C M d mc ms ne Qr Qx nx k n pc lv (.float y :: .float x :: st) h := by
  intro p l e s m args below meth c Fin cz hr hx hzz H locs ls hP hS hL
  exact lv_fdiv cz.1.1 cz.1.2.1 hd hz (kk p l e s m args below meth c Fin cz hr hx hzz H locs ls hP hS hL)
theorem w_ddiv {x y : UInt64} (hd : decode (mB M) pc = .ok (.ddiv, 1)) (hz : vf_n64 (FP.ddiv x y)) (kk : ww C M d mc ms ne Qr Qx nx k n (pc + 1) lv (.double (FP.ddiv x y) :: st) h) : ww C M d mc ms ne Qr Qx nx k n pc lv (.double y :: .double x :: st) h := by
  intro p l e s m args below meth c Fin cz hr hx hzz H locs ls hP hS hL
  exact lv_ddiv cz.1.1 cz.1.2.1 hd hz (kk p l e s m args below meth c Fin cz hr hx hzz H locs ls hP hS hL)
theorem w_fcmp {x y : UInt32} {op : CmpOp} (hd : decode (mB M) pc = .ok (.fcmp op, 1)) (kk : ww C M d mc ms ne Qr Qx nx k n (pc + 1) lv (.int (Op.cmpValue (FP.fcmp x y) op) :: st) h) : ww C M d mc ms ne Qr Qx nx k n pc lv (.float y :: .float x :: st) h := by
  intro p l e s m args below meth c Fin cz hr hx hzz H locs ls hP hS hL
  exact lv_fcmp cz.1.1 cz.1.2.1 hd (kk p l e s m args below meth c Fin cz hr hx hzz H locs ls hP hS hL)
theorem w_dcmp {x y : UInt64} {op : CmpOp} (hd : decode (mB M) pc = .ok (.dcmp op, 1)) (kk : ww C M d mc ms ne Qr Qx nx k n (pc + 1) lv (.int (Op.cmpValue (FP.dcmp x y) op) :: st) h) : ww C M d mc ms ne Qr Qx nx k n pc lv (.double y :: .double x :: st) h := by
  intro p l e s m args below meth c Fin cz hr hx hzz H locs ls hP hS hL
  exact lv_dcmp cz.1.1 cz.1.2.1 hd (kk p l e s m args below meth c Fin cz hr hx hzz H locs ls hP hS hL)
theorem w_fconst0  (hd : decode (mB M) pc = .ok (.fconst 0, 1)) (kk : ww C M d mc ms ne Qr Qx nx k n (pc + 1) lv (.float 0 :: st) h) : ww C M d mc ms ne Qr Qx nx k n pc lv (st) h := by
  intro p l e s m args below meth c Fin cz hr hx hzz H locs ls hP hS hL
  exact lv_fconst0 cz.1.1 cz.1.2.1 hd (kk p l e s m args below meth c Fin cz hr hx hzz H locs ls hP hS hL)
theorem w_dconst0  (hd : decode (mB M) pc = .ok (.dconst 0, 1)) (kk : ww C M d mc ms ne Qr Qx nx k n (pc + 1) lv (.double 0 :: st) h) : ww C M d mc ms ne Qr Qx nx k n pc lv (st) h := by
  intro p l e s m args below meth c Fin cz hr hx hzz H locs ls hP hS hL
  exact lv_dconst0 cz.1.1 cz.1.2.1 hd (kk p l e s m args below meth c Fin cz hr hx hzz H locs ls hP hS hL)
theorem w_lcmp {x y : Int64} (hd : decode (mB M) pc = .ok (.lcmp, 1)) (kk : ww C M d mc ms ne Qr Qx nx k n (pc + 1) lv (.int (lg_cmp x y) :: st) h) : ww C M d mc ms ne Qr Qx nx k n pc lv (.long y :: .long x :: st) h := by
  intro p l e s m args below meth c Fin cz hr hx hzz H locs ls hP hS hL
  exact W.lcmp cz.1.1 cz.1.2.1 hd (kk p l e s m args below meth c Fin cz hr hx hzz H locs ls hP hS hL)
theorem w_dup {v : Value} (hd : decode (mB M) pc = .ok (.dup, 1)) (hv : v.category = 1) (kk : ww C M d mc ms ne Qr Qx nx k n (pc + 1) lv (v :: v :: st) h) : ww C M d mc ms ne Qr Qx nx k n pc lv (v :: st) h := by
  intro p l e s m args below meth c Fin cz hr hx hzz H locs ls hP hS hL
  exact lv_dup cz.1.1 cz.1.2.1 hd (by rw [up_cat]; exact hv) (kk p l e s m args below meth c Fin cz hr hx hzz H locs ls hP hS hL)
theorem w_pop {v : Value} (hd : decode (mB M) pc = .ok (.pop, 1)) (hv : v.category = 1) (kk : ww C M d mc ms ne Qr Qx nx k n (pc + 1) lv (st) h) : ww C M d mc ms ne Qr Qx nx k n pc lv (v :: st) h := by
  intro p l e s m args below meth c Fin cz hr hx hzz H locs ls hP hS hL
  exact lv_pop cz.1.1 cz.1.2.1 hd (by rw [up_cat]; exact hv) (kk p l e s m args below meth c Fin cz hr hx hzz H locs ls hP hS hL)
theorem w_dup2 {v w : Value} (hd : decode (mB M) pc = .ok (.dup2, 1)) (hv : v.category = 1) (hw : w.category = 1) (kk : ww C M d mc ms ne Qr Qx nx k n (pc + 1) lv (v :: w :: v :: w :: st) h) : ww C M d mc ms ne Qr Qx nx k n pc lv (v :: w :: st) h := by
  intro p l e s m args below meth c Fin cz hr hx hzz H locs ls hP hS hL
  exact lv_dup2_11 cz.1.1 cz.1.2.1 hd (by rw [up_cat]; exact hv) (by rw [up_cat]; exact hw) (kk p l e s m args below meth c Fin cz hr hx hzz H locs ls hP hS hL)
theorem w_null  (hd : decode (mB M) pc = .ok (.aconst_null, 1)) (kk : ww C M d mc ms ne Qr Qx nx k n (pc + 1) lv (.null :: st) h) : ww C M d mc ms ne Qr Qx nx k n pc lv (st) h := by
  intro p l e s m args below meth c Fin cz hr hx hzz H locs ls hP hS hL
  exact lv_null cz.1.1 cz.1.2.1 hd (kk p l e s m args below meth c Fin cz hr hx hzz H locs ls hP hS hL)
theorem w_ifeq {x : Int32} {off : Int} {tgt : Nat} (hd : decode (mB M) pc = .ok (.ifCond .eq off, 3)) (ht : (pc : Int) + off = (tgt : Int)) (kt : x = 0 → ww C M d mc ms ne Qr Qx nx k n tgt lv st h) (kf : ¬ x = 0 → ww C M d mc ms ne Qr Qx nx k n (pc + 3) lv st h) : ww C M d mc ms ne Qr Qx nx k n pc lv (.int x :: st) h := by
  intro p l e s m args below meth c Fin cz hr hx hzz H locs ls hP hS hL
  exact lv_if_eq cz.1.1 cz.1.2.1 hd ht (fun q => kt q p l e s m args below meth c Fin cz hr hx hzz H locs ls hP hS hL) (fun q => kf q p l e s m args below meth c Fin cz hr hx hzz H locs ls hP hS hL)
theorem w_ifne {x : Int32} {off : Int} {tgt : Nat} (hd : decode (mB M) pc = .ok (.ifCond .ne off, 3)) (ht : (pc : Int) + off = (tgt : Int)) (kt : ¬ x = 0 → ww C M d mc ms ne Qr Qx nx k n tgt lv st h) (kf : x = 0 → ww C M d mc ms ne Qr Qx nx k n (pc + 3) lv st h) : ww C M d mc ms ne Qr Qx nx k n pc lv (.int x :: st) h := by
  intro p l e s m args below meth c Fin cz hr hx hzz H locs ls hP hS hL
  exact lv_if_ne cz.1.1 cz.1.2.1 hd ht (fun q => kt q p l e s m args below meth c Fin cz hr hx hzz H locs ls hP hS hL) (fun q => kf q p l e s m args below meth c Fin cz hr hx hzz H locs ls hP hS hL)
theorem w_iflt {x : Int32} {off : Int} {tgt : Nat} (hd : decode (mB M) pc = .ok (.ifCond .lt off, 3)) (ht : (pc : Int) + off = (tgt : Int)) (kt : x < 0 → ww C M d mc ms ne Qr Qx nx k n tgt lv st h) (kf : ¬ x < 0 → ww C M d mc ms ne Qr Qx nx k n (pc + 3) lv st h) : ww C M d mc ms ne Qr Qx nx k n pc lv (.int x :: st) h := by
  intro p l e s m args below meth c Fin cz hr hx hzz H locs ls hP hS hL
  exact lv_if_lt cz.1.1 cz.1.2.1 hd ht (fun q => kt q p l e s m args below meth c Fin cz hr hx hzz H locs ls hP hS hL) (fun q => kf q p l e s m args below meth c Fin cz hr hx hzz H locs ls hP hS hL)
theorem w_ifge {x : Int32} {off : Int} {tgt : Nat} (hd : decode (mB M) pc = .ok (.ifCond .ge off, 3)) (ht : (pc : Int) + off = (tgt : Int)) (kt : 0 ≤ x → ww C M d mc ms ne Qr Qx nx k n tgt lv st h) (kf : ¬ 0 ≤ x → ww C M d mc ms ne Qr Qx nx k n (pc + 3) lv st h) : ww C M d mc ms ne Qr Qx nx k n pc lv (.int x :: st) h := by
  intro p l e s m args below meth c Fin cz hr hx hzz H locs ls hP hS hL
  exact lv_if_ge cz.1.1 cz.1.2.1 hd ht (fun q => kt q p l e s m args below meth c Fin cz hr hx hzz H locs ls hP hS hL) (fun q => kf q p l e s m args below meth c Fin cz hr hx hzz H locs ls hP hS hL)
theorem w_ifgt {x : Int32} {off : Int} {tgt : Nat} (hd : decode (mB M) pc = .ok (.ifCond .gt off, 3)) (ht : (pc : Int) + off = (tgt : Int)) (kt : 0 < x → ww C M d mc ms ne Qr Qx nx k n tgt lv st h) (kf : ¬ 0 < x → ww C M d mc ms ne Qr Qx nx k n (pc + 3) lv st h) : ww C M d mc ms ne Qr Qx nx k n pc lv (.int x :: st) h := by
  intro p l e s m args below meth c Fin cz hr hx hzz H locs ls hP hS hL
  exact lv_if_gt cz.1.1 cz.1.2.1 hd ht (fun q => kt q p l e s m args below meth c Fin cz hr hx hzz H locs ls hP hS hL) (fun q => kf q p l e s m args below meth c Fin cz hr hx hzz H locs ls hP hS hL)
theorem w_ifle {x : Int32} {off : Int} {tgt : Nat} (hd : decode (mB M) pc = .ok (.ifCond .le off, 3)) (ht : (pc : Int) + off = (tgt : Int)) (kt : x ≤ 0 → ww C M d mc ms ne Qr Qx nx k n tgt lv st h) (kf : ¬ x ≤ 0 → ww C M d mc ms ne Qr Qx nx k n (pc + 3) lv st h) : ww C M d mc ms ne Qr Qx nx k n pc lv (.int x :: st) h := by
  intro p l e s m args below meth c Fin cz hr hx hzz H locs ls hP hS hL
  exact lv_if_le cz.1.1 cz.1.2.1 hd ht (fun q => kt q p l e s m args below meth c Fin cz hr hx hzz H locs ls hP hS hL) (fun q => kf q p l e s m args below meth c Fin cz hr hx hzz H locs ls hP hS hL)
theorem w_icmpeq {x y : Int32} {off : Int} {tgt : Nat} (hd : decode (mB M) pc = .ok (.if_icmp .eq off, 3)) (ht : (pc : Int) + off = (tgt : Int)) (kt : x = y → ww C M d mc ms ne Qr Qx nx k n tgt lv st h) (kf : ¬ x = y → ww C M d mc ms ne Qr Qx nx k n (pc + 3) lv st h) : ww C M d mc ms ne Qr Qx nx k n pc lv (.int y :: .int x :: st) h := by
  intro p l e s m args below meth c Fin cz hr hx hzz H locs ls hP hS hL
  exact lv_icmp_eq cz.1.1 cz.1.2.1 hd ht (fun q => kt q p l e s m args below meth c Fin cz hr hx hzz H locs ls hP hS hL) (fun q => kf q p l e s m args below meth c Fin cz hr hx hzz H locs ls hP hS hL)
theorem w_icmpne {x y : Int32} {off : Int} {tgt : Nat} (hd : decode (mB M) pc = .ok (.if_icmp .ne off, 3)) (ht : (pc : Int) + off = (tgt : Int)) (kt : ¬ x = y → ww C M d mc ms ne Qr Qx nx k n tgt lv st h) (kf : x = y → ww C M d mc ms ne Qr Qx nx k n (pc + 3) lv st h) : ww C M d mc ms ne Qr Qx nx k n pc lv (.int y :: .int x :: st) h := by
  intro p l e s m args below meth c Fin cz hr hx hzz H locs ls hP hS hL
  exact lv_icmp_ne cz.1.1 cz.1.2.1 hd ht (fun q => kt q p l e s m args below meth c Fin cz hr hx hzz H locs ls hP hS hL) (fun q => kf q p l e s m args below meth c Fin cz hr hx hzz H locs ls hP hS hL)
theorem w_icmplt {x y : Int32} {off : Int} {tgt : Nat} (hd : decode (mB M) pc = .ok (.if_icmp .lt off, 3)) (ht : (pc : Int) + off = (tgt : Int)) (kt : x < y → ww C M d mc ms ne Qr Qx nx k n tgt lv st h) (kf : ¬ x < y → ww C M d mc ms ne Qr Qx nx k n (pc + 3) lv st h) : ww C M d mc ms ne Qr Qx nx k n pc lv (.int y :: .int x :: st) h := by
  intro p l e s m args below meth c Fin cz hr hx hzz H locs ls hP hS hL
  exact lv_icmp_lt cz.1.1 cz.1.2.1 hd ht (fun q => kt q p l e s m args below meth c Fin cz hr hx hzz H locs ls hP hS hL) (fun q => kf q p l e s m args below meth c Fin cz hr hx hzz H locs ls hP hS hL)
theorem w_icmpge {x y : Int32} {off : Int} {tgt : Nat} (hd : decode (mB M) pc = .ok (.if_icmp .ge off, 3)) (ht : (pc : Int) + off = (tgt : Int)) (kt : y ≤ x → ww C M d mc ms ne Qr Qx nx k n tgt lv st h) (kf : ¬ y ≤ x → ww C M d mc ms ne Qr Qx nx k n (pc + 3) lv st h) : ww C M d mc ms ne Qr Qx nx k n pc lv (.int y :: .int x :: st) h := by
  intro p l e s m args below meth c Fin cz hr hx hzz H locs ls hP hS hL
  exact lv_icmp_ge cz.1.1 cz.1.2.1 hd ht (fun q => kt q p l e s m args below meth c Fin cz hr hx hzz H locs ls hP hS hL) (fun q => kf q p l e s m args below meth c Fin cz hr hx hzz H locs ls hP hS hL)
theorem w_icmpgt {x y : Int32} {off : Int} {tgt : Nat} (hd : decode (mB M) pc = .ok (.if_icmp .gt off, 3)) (ht : (pc : Int) + off = (tgt : Int)) (kt : y < x → ww C M d mc ms ne Qr Qx nx k n tgt lv st h) (kf : ¬ y < x → ww C M d mc ms ne Qr Qx nx k n (pc + 3) lv st h) : ww C M d mc ms ne Qr Qx nx k n pc lv (.int y :: .int x :: st) h := by
  intro p l e s m args below meth c Fin cz hr hx hzz H locs ls hP hS hL
  exact lv_icmp_gt cz.1.1 cz.1.2.1 hd ht (fun q => kt q p l e s m args below meth c Fin cz hr hx hzz H locs ls hP hS hL) (fun q => kf q p l e s m args below meth c Fin cz hr hx hzz H locs ls hP hS hL)
theorem w_icmple {x y : Int32} {off : Int} {tgt : Nat} (hd : decode (mB M) pc = .ok (.if_icmp .le off, 3)) (ht : (pc : Int) + off = (tgt : Int)) (kt : x ≤ y → ww C M d mc ms ne Qr Qx nx k n tgt lv st h) (kf : ¬ x ≤ y → ww C M d mc ms ne Qr Qx nx k n (pc + 3) lv st h) : ww C M d mc ms ne Qr Qx nx k n pc lv (.int y :: .int x :: st) h := by
  intro p l e s m args below meth c Fin cz hr hx hzz H locs ls hP hS hL
  exact lv_icmp_le cz.1.1 cz.1.2.1 hd ht (fun q => kt q p l e s m args below meth c Fin cz hr hx hzz H locs ls hP hS hL) (fun q => kf q p l e s m args below meth c Fin cz hr hx hzz H locs ls hP hS hL)
theorem w_goto {off : Int} {tgt : Nat} (hd : decode (mB M) pc = .ok (.goto off, 3)) (ht : (pc : Int) + off = (tgt : Int)) (kk : ww C M d mc ms ne Qr Qx nx k n tgt lv st h) : ww C M d mc ms ne Qr Qx nx k n pc lv st h := by
  intro p l e s m args below meth c Fin cz hr hx hzz H locs ls hP hS hL
  exact lv_goto cz.1.1 cz.1.2.1 hd ht (kk p l e s m args below meth c Fin cz hr hx hzz H locs ls hP hS hL)
theorem w_ifnonnull {x : Nat} {off : Int} {tgt : Nat} (hd : decode (mB M) pc = .ok (.ifnonnull off, 3)) (ht : (pc : Int) + off = (tgt : Int)) (kk : ww C M d mc ms ne Qr Qx nx k n tgt lv st h) : ww C M d mc ms ne Qr Qx nx k n pc lv (.ref x :: st) h := by
  intro p l e s m args below meth c Fin cz hr hx hzz H locs ls hP hS hL
  exact lv_ifnonnull cz.1.1 cz.1.2.1 hd ht (kk p l e s m args below meth c Fin cz hr hx hzz H locs ls hP hS hL)
theorem w_ifnull {x : Nat} {off : Int} (hd : decode (mB M) pc = .ok (.ifnull off, 3)) (kk : ww C M d mc ms ne Qr Qx nx k n (pc + 3) lv st h) : ww C M d mc ms ne Qr Qx nx k n pc lv (.ref x :: st) h := by
  intro p l e s m args below meth c Fin cz hr hx hzz H locs ls hP hS hL
  exact lv_ifnull cz.1.1 cz.1.2.1 hd (kk p l e s m args below meth c Fin cz hr hx hzz H locs ls hP hS hL)
theorem w_ifnullN {off : Int} {tgt : Nat} (hd : decode (mB M) pc = .ok (.ifnull off, 3)) (ht : (pc : Int) + off = (tgt : Int)) (kk : ww C M d mc ms ne Qr Qx nx k n tgt lv st h) : ww C M d mc ms ne Qr Qx nx k n pc lv (.null :: st) h := by
  intro p l e s m args below meth c Fin cz hr hx hzz H locs ls hP hS hL
  exact lv_ifnullN cz.1.1 cz.1.2.1 hd ht (kk p l e s m args below meth c Fin cz hr hx hzz H locs ls hP hS hL)
theorem w_ifnonnullN {off : Int} (hd : decode (mB M) pc = .ok (.ifnonnull off, 3)) (kk : ww C M d mc ms ne Qr Qx nx k n (pc + 3) lv st h) : ww C M d mc ms ne Qr Qx nx k n pc lv (.null :: st) h := by
  intro p l e s m args below meth c Fin cz hr hx hzz H locs ls hP hS hL
  exact lv_ifnonnullN cz.1.1 cz.1.2.1 hd (kk p l e s m args below meth c Fin cz hr hx hzz H locs ls hP hS hL)
theorem w_tableIn {dflt lo hi : Int} {offs : Array Int} {len : Nat} {x : Int32} {off : Int} {tgt : Nat} (hd : decode (mB M) pc = .ok (.tableswitch dflt lo hi offs, len)) (h1 : ¬ x.toInt < lo) (h2 : ¬ hi < x.toInt) (ho : offs[(x.toInt - lo).toNat]? = some off) (ht : (pc : Int) + off = (tgt : Int)) (kk : ww C M d mc ms ne Qr Qx nx k n tgt lv st h) : ww C M d mc ms ne Qr Qx nx k n pc lv (.int x :: st) h := by
  intro p l e s m args below meth c Fin cz hr hx hzz H locs ls hP hS hL
  exact lv_tableIn cz.1.1 cz.1.2.1 hd h1 h2 ho ht (kk p l e s m args below meth c Fin cz hr hx hzz H locs ls hP hS hL)
theorem w_tableOut {dflt lo hi : Int} {offs : Array Int} {len : Nat} {x : Int32} {tgt : Nat} (hd : decode (mB M) pc = .ok (.tableswitch dflt lo hi offs, len)) (h1 : x.toInt < lo ∨ hi < x.toInt) (ht : (pc : Int) + dflt = (tgt : Int)) (kk : ww C M d mc ms ne Qr Qx nx k n tgt lv st h) : ww C M d mc ms ne Qr Qx nx k n pc lv (.int x :: st) h := by
  intro p l e s m args below meth c Fin cz hr hx hzz H locs ls hP hS hL
  exact lv_tableOut cz.1.1 cz.1.2.1 hd h1 ht (kk p l e s m args below meth c Fin cz hr hx hzz H locs ls hP hS hL)
theorem w_ldc {idx : Nat} (v : Int32) (hd : decode (mB M) pc = .ok (.ldc idx, 2)) (hw : Cond.constant (mY M).cls idx v ∈ lw_all) (kk : ww C M d mc ms ne Qr Qx nx k n (pc + 2) lv (.int v :: st) h) : ww C M d mc ms ne Qr Qx nx k n pc lv st h := by
  intro p l e s m args below meth c Fin cz hr hx hzz H locs ls hP hS hL
  exact lv_ldc cz.1.1 cz.1.2.1 cz.1.2.2.2.2 (cz.2.1 _ hw) hd (kk p l e s m args below meth c Fin cz hr hx hzz H locs ls hP hS hL)
theorem w_ldcw {idx : Nat} (v : Int32) (hd : decode (mB M) pc = .ok (.ldc_w idx, 3)) (hw : Cond.constant (mY M).cls idx v ∈ lw_all) (kk : ww C M d mc ms ne Qr Qx nx k n (pc + 3) lv (.int v :: st) h) : ww C M d mc ms ne Qr Qx nx k n pc lv st h := by
  intro p l e s m args below meth c Fin cz hr hx hzz H locs ls hP hS hL
  exact lv_ldcw cz.1.1 cz.1.2.1 cz.1.2.2.2.2 (cz.2.1 _ hw) hd (kk p l e s m args below meth c Fin cz hr hx hzz H locs ls hP hS hL)
theorem w_ldc2 {idx : Nat} (v : Int64) (hd : decode (mB M) pc = .ok (.ldc2_w idx, 3)) (hw : Cond.constantLong (mY M).cls idx v ∈ lw_all) (kk : ww C M d mc ms ne Qr Qx nx k n (pc + 3) lv (.long v :: st) h) : ww C M d mc ms ne Qr Qx nx k n pc lv st h := by
  intro p l e s m args below meth c Fin cz hr hx hzz H locs ls hP hS hL
  exact lv_ldc2 cz.1.1 cz.1.2.1 cz.1.2.2.2.2 (cz.2.1 _ hw) hd (kk p l e s m args below meth c Fin cz hr hx hzz H locs ls hP hS hL)
theorem w_ldcf {idx : Nat} (v : UInt32) (hd : decode (mB M) pc = .ok (.ldc idx, 2)) (hw : Cond.constantFloat (mY M).cls idx v ∈ lw_all) (kk : ww C M d mc ms ne Qr Qx nx k n (pc + 2) lv (.float v :: st) h) : ww C M d mc ms ne Qr Qx nx k n pc lv st h := by
  intro p l e s m args below meth c Fin cz hr hx hzz H locs ls hP hS hL
  exact lv_ldcf cz.1.1 cz.1.2.1 cz.1.2.2.2.2 (cz.2.1 _ hw) hd (kk p l e s m args below meth c Fin cz hr hx hzz H locs ls hP hS hL)
theorem w_ldc2d {idx : Nat} (v : UInt64) (hd : decode (mB M) pc = .ok (.ldc2_w idx, 3)) (hw : Cond.constantDouble (mY M).cls idx v ∈ lw_all) (kk : ww C M d mc ms ne Qr Qx nx k n (pc + 3) lv (.double v :: st) h) : ww C M d mc ms ne Qr Qx nx k n pc lv st h := by
  intro p l e s m args below meth c Fin cz hr hx hzz H locs ls hP hS hL
  exact lv_ldc2d cz.1.1 cz.1.2.1 cz.1.2.2.2.2 (cz.2.1 _ hw) hd (kk p l e s m args below meth c Fin cz hr hx hzz H locs ls hP hS hL)
theorem w_ireturn {x : Int32} {ty : FieldType} (hty : mR M = some ty) (hnr : narrow ty (.int x) = .int x) (hd : decode (mB M) pc = .ok (.ireturn, 1)) (hne : nx = ne) (hk : k ≤ mc) (hn : n ≤ ms) (hq : Qr (some (.int x)) h) : ww C M d mc ms ne Qr Qx nx k n pc lv ([.int x]) h := by
  intro p l e s m args below meth c Fin cz hr hx hzz H locs ls hP hS hL
  subst hne
  exact hr (some (.int x)) h H locs ls pc k n _ hq hP hS hk hn (by rw [cz.1.2.1]; exact hd) (Or.inl ⟨x, rfl, rfl, ty, hty, hnr⟩)
theorem w_return (hty : mR M = none) (hd : decode (mB M) pc = .ok (.return_, 1)) (hne : nx = ne) (hk : k ≤ mc) (hn : n ≤ ms) (hq : Qr (none) h) : ww C M d mc ms ne Qr Qx nx k n pc lv ([]) h := by
  intro p l e s m args below meth c Fin cz hr hx hzz H locs ls hP hS hL
  subst hne
  exact hr (none) h H locs ls pc k n _ hq hP hS hk hn (by rw [cz.1.2.1]; exact hd) (Or.inr (Or.inl ⟨rfl, rfl, hty⟩))
theorem w_areturn {x : Nat} {ty : FieldType} (hty : mR M = some ty) (hnr : isR ty = true) (hd : decode (mB M) pc = .ok (.areturn, 1)) (hne : nx = ne) (hk : k ≤ mc) (hn : n ≤ ms) (hq : Qr (some (.ref x)) h) : ww C M d mc ms ne Qr Qx nx k n pc lv ([.ref x]) h := by
  intro p l e s m args below meth c Fin cz hr hx hzz H locs ls hP hS hL
  subst hne
  exact hr (some (.ref x)) h H locs ls pc k n _ hq hP hS hk hn (by rw [cz.1.2.1]; exact hd) (Or.inr (Or.inr (Or.inl ⟨x, rfl, rfl, ty, hty, hnr⟩)))
theorem w_areturnN {ty : FieldType} (hty : mR M = some ty) (hnr : isR ty = true) (hd : decode (mB M) pc = .ok (.areturn, 1)) (hne : nx = ne) (hk : k ≤ mc) (hn : n ≤ ms) (hq : Qr (some .null) h) : ww C M d mc ms ne Qr Qx nx k n pc lv ([.null]) h := by
  intro p l e s m args below meth c Fin cz hr hx hzz H locs ls hP hS hL
  subst hne
  exact hr (some .null) h H locs ls pc k n _ hq hP hS hk hn (by rw [cz.1.2.1]; exact hd) (Or.inr (Or.inr (Or.inr (Or.inl ⟨rfl, rfl, ty, hty, hnr⟩))))
theorem w_freturn {x : UInt32} (hty : mR M = some .float) (hd : decode (mB M) pc = .ok (.freturn, 1)) (hne : nx = ne) (hk : k ≤ mc) (hn : n ≤ ms) (hq : Qr (some (.float x)) h) : ww C M d mc ms ne Qr Qx nx k n pc lv ([.float x]) h := by
  intro p l e s m args below meth c Fin cz hr hx hzz H locs ls hP hS hL
  subst hne
  exact hr (some (.float x)) h H locs ls pc k n _ hq hP hS hk hn (by rw [cz.1.2.1]; exact hd) (Or.inr (Or.inr (Or.inr (Or.inr (Or.inl ⟨x, rfl, rfl, hty⟩)))))
theorem w_lreturn {x : Int64} (hty : mR M = some .long) (hd : decode (mB M) pc = .ok (.lreturn, 1)) (hne : nx = ne) (hk : k ≤ mc) (hn : n ≤ ms) (hq : Qr (some (.long x)) h) : ww C M d mc ms ne Qr Qx nx k n pc lv ([.long x]) h := by
  intro p l e s m args below meth c Fin cz hr hx hzz H locs ls hP hS hL
  subst hne
  exact hr (some (.long x)) h H locs ls pc k n _ hq hP hS hk hn (by rw [cz.1.2.1]; exact hd) (Or.inr (Or.inr (Or.inr (Or.inr (Or.inr ⟨x, rfl, rfl, hty⟩)))))
end WW

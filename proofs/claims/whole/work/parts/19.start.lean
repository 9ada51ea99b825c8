/-! ===== the start: what the Statement gives, in the layer's words ===== -/
def gvL : List Cond := flatC (Jvm.Cond.and given_1 narrow_1)
theorem in_tb {w : Cond} (h : w ∈ tables_1) : w ∈ lw_tbl := List.mem_append_right _ h
theorem st_arr {args : Array Value} {s : State} {atype : ArrayType} (h : (Cond.arrayClass (newarray.typeOf atype)).before args s = true) : ∃ cA : ClassId, ArrOfT s cA (newarray.typeOf atype) ∧ va_RA s cA (newarray.typeOf atype) := by
  obtain ⟨cA, kA, comp, h1, h2, h3⟩ := Cond.arrayClass_spec (args := args) (first := s) (o := none) (s := s) (idx := []) h
  exact ⟨cA, fun n z => ⟨(fun k h => by cases h), kA, h2, comp, h3⟩, by cases atype <;> exact h1⟩
theorem st_arrq {args : Array Value} {s : State} {C : String} (h : (Cond.arrayOver (.object C)).before args s = true) : ∃ cA : ClassId, ArrOfT s cA (.object C) ∧ va_RA s cA (.object C) := by
  obtain ⟨comp, c, k, h1, -, h2, h3, h4⟩ := Cond.arrayOver_spec (args := args) (first := s) (o := none) (s := s) (idx := []) h
  exact ⟨c, fun n z => ⟨(fun k h => by cases h), k, h2, comp, h3⟩, k, comp, h2, h3, h1, h4⟩
/-- the old cells -/
abbrev oldA (s : State) : Nat → Prop := fun q => s.heap.size ≤ q
theorem oldA_no (s : State) : ∀ a : Nat, a < s.heap.size → ¬ oldA s a := fun _ h q => absurd h (Nat.not_lt.mpr q)
section START
variable {b : Addr} {s : State}
/-- a static row -/
theorem st_row (C n : String) (f : List Int32) (hN : f.length < 2 ^ 31) (hts : ∀ w ∈ lw_tbl, w.before #[Value.ref b] s = true) (hg : ∀ w ∈ gvL, w.before #[Value.ref b] s = true) (hl : Cond.laysStatic C n "[I" ∈ lw_tbl) (hi : Cond.initialized C ∈ lw_tbl)
    (h1 : Cond.arrayOf (.static C n "[I") .int ∈ gvL) (h2 : Cond.eq (.length (.static C n "[I")) (.int (Int32.ofNat f.length)) ∈ gvL) (h3 : ∀ j ∈ List.range f.length, Cond.eq (.elem (.static C n "[I") (.int (Int32.ofNat j))) (.int ((f[j]?).getD 0)) ∈ gvL) :
    ∃ t : Nat, va_Z C n "[I" (.ref t) (oldA s) s s.heap ∧ va_T .int t f.length (fun j => .int ((f[j]?).getD 0)) (oldA s) s s.heap := by
  obtain ⟨t, e, hT⟩ := va_Tof (f := fun j => .int ((f[j]?).getD 0)) (A := oldA s) hN (hg _ h1) (va_eqt (hg _ h2)) (fun j hj => va_eqt (hg _ (h3 j (List.mem_range.mpr hj)))) (oldA_no s)
  exact ⟨t, va_Zref (hts _ hl) (hts _ hi) e (oldA_no s), hT⟩
theorem st_msg (own : String) (k : Nat) (tx : String) (hts : ∀ w ∈ lw_tbl, w.before #[Value.ref b] s = true) (hg : ∀ w ∈ gvL, w.before #[Value.ref b] s = true) (hr : Cond.stringRef own k tx ∈ lw_tbl) (hex : Cond.exactly (.string own k) "java/lang/String" ∈ gvL) :
    ∃ a : Nat, vk_R own k tx a s ∧ va_O "java/lang/String" a (oldA s) s s.heap ∧ (Term.string own k).eval #[Value.ref b] s none [] s = some (.ref a) := by
  obtain ⟨a, c, cA, kA, q1, -⟩ := Cond.exactly_spec (args := #[Value.ref b]) (first := s) (o := none) (s := s) (idx := []) (hg _ hex)
  exact ⟨a, vk_R.of (hts _ hr) q1, va_Oof (hg _ hex) q1 (oldA_no s), q1⟩
theorem st_str (own : String) (k : Nat) (tx : String) (f : List Int) (hN : f.length < 2 ^ 31) (hts : ∀ w ∈ lw_tbl, w.before #[Value.ref b] s = true) (hg : ∀ w ∈ gvL, w.before #[Value.ref b] s = true) (hr : Cond.stringRef own k tx ∈ lw_tbl) (hex : Cond.exactly (.string own k) "java/lang/String" ∈ gvL)
    (hco : Cond.eq (.field (.string own k) "java/lang/String" "coder" "B") (.int 0) ∈ gvL) (har : Cond.arrayOf (.field (.string own k) "java/lang/String" "value" "[B") .byte ∈ gvL) (hle : Cond.eq (.length (.field (.string own k) "java/lang/String" "value" "[B")) (.int (Int32.ofNat f.length)) ∈ gvL)
    (hel : ∀ j ∈ List.range f.length, Cond.eq (.elem (.field (.string own k) "java/lang/String" "value" "[B") (.int (Int32.ofNat j))) (.int (Int32.ofInt ((f[j]?).getD 0))) ∈ gvL) :
    ∃ a t : Nat, vk_R own k tx a s ∧ va_O "java/lang/String" a (oldA s) s s.heap ∧ va_OF "java/lang/String" "coder" "B" (.int 0) a (oldA s) s s.heap ∧ va_OF "java/lang/String" "value" "[B" (.ref t) a (oldA s) s s.heap ∧ va_T .byte t f.length (fun j => .int (Int32.ofInt ((f[j]?).getD 0))) (oldA s) s s.heap := by
  obtain ⟨a, h1, h2, h3⟩ := st_msg own k tx hts hg hr hex
  obtain ⟨t, e, hT⟩ := va_Tof (f := fun j => .int (Int32.ofInt ((f[j]?).getD 0))) (A := oldA s) hN (hg _ har) (va_eqt (hg _ hle)) (fun j hj => va_eqt (hg _ (hel j (List.mem_range.mpr hj)))) (oldA_no s)
  exact ⟨a, t, h1, h2, vk_OFof h3 (va_eqt (hg _ hco)) (oldA_no s), vk_OFof h3 e (oldA_no s), hT⟩
theorem st_r0 (hts : ∀ w ∈ lw_tbl, w.before #[Value.ref b] s = true) (hg : ∀ w ∈ gvL, w.before #[Value.ref b] s = true) : ∃ t : Nat, va_Z "HexArbiter$Grid" "STEP_ROWS" "[I" (.ref t) (oldA s) s s.heap ∧ va_T .int t ([-1, -1, 0, 0, 1, 1] : List Int32).length (fun j => .int ((([-1, -1, 0, 0, 1, 1] : List Int32)[j]?).getD 0)) (oldA s) s s.heap := st_row "HexArbiter$Grid" "STEP_ROWS" [-1, -1, 0, 0, 1, 1] (by decide) hts hg (in_tb (List.mem_of_getElem? (i := 347) (by decide +kernel))) (in_tb (List.mem_of_getElem? (i := 2) (by decide +kernel))) (by decide +kernel) (by decide +kernel) (by decide +kernel)
theorem st_r1 (hts : ∀ w ∈ lw_tbl, w.before #[Value.ref b] s = true) (hg : ∀ w ∈ gvL, w.before #[Value.ref b] s = true) : ∃ t : Nat, va_Z "HexArbiter$Grid" "STEP_COLUMNS" "[I" (.ref t) (oldA s) s s.heap ∧ va_T .int t ([0, 1, -1, 1, -1, 0] : List Int32).length (fun j => .int ((([0, 1, -1, 1, -1, 0] : List Int32)[j]?).getD 0)) (oldA s) s s.heap := st_row "HexArbiter$Grid" "STEP_COLUMNS" [0, 1, -1, 1, -1, 0] (by decide) hts hg (in_tb (List.mem_of_getElem? (i := 352) (by decide +kernel))) (in_tb (List.mem_of_getElem? (i := 2) (by decide +kernel))) (by decide +kernel) (by decide +kernel) (by decide +kernel)
theorem st_r2 (hts : ∀ w ∈ lw_tbl, w.before #[Value.ref b] s = true) (hg : ∀ w ∈ gvL, w.before #[Value.ref b] s = true) : ∃ t : Nat, va_Z "HexArbiter$BridgeList" "FAR_ROWS" "[I" (.ref t) (oldA s) s s.heap ∧ va_T .int t ([1, 1, 2] : List Int32).length (fun j => .int ((([1, 1, 2] : List Int32)[j]?).getD 0)) (oldA s) s s.heap := st_row "HexArbiter$BridgeList" "FAR_ROWS" [1, 1, 2] (by decide) hts hg (in_tb (List.mem_of_getElem? (i := 655) (by decide +kernel))) (in_tb (List.mem_of_getElem? (i := 9) (by decide +kernel))) (by decide +kernel) (by decide +kernel) (by decide +kernel)
theorem st_r3 (hts : ∀ w ∈ lw_tbl, w.before #[Value.ref b] s = true) (hg : ∀ w ∈ gvL, w.before #[Value.ref b] s = true) : ∃ t : Nat, va_Z "HexArbiter$BridgeList" "FAR_COLUMNS" "[I" (.ref t) (oldA s) s s.heap ∧ va_T .int t ([-2, 1, -1] : List Int32).length (fun j => .int ((([-2, 1, -1] : List Int32)[j]?).getD 0)) (oldA s) s s.heap := st_row "HexArbiter$BridgeList" "FAR_COLUMNS" [-2, 1, -1] (by decide) hts hg (in_tb (List.mem_of_getElem? (i := 663) (by decide +kernel))) (in_tb (List.mem_of_getElem? (i := 9) (by decide +kernel))) (by decide +kernel) (by decide +kernel) (by decide +kernel)
theorem st_r4 (hts : ∀ w ∈ lw_tbl, w.before #[Value.ref b] s = true) (hg : ∀ w ∈ gvL, w.before #[Value.ref b] s = true) : ∃ t : Nat, va_Z "HexArbiter$BridgeList" "LOW_ROWS" "[I" (.ref t) (oldA s) s s.heap ∧ va_T .int t ([0, 0, 1] : List Int32).length (fun j => .int ((([0, 0, 1] : List Int32)[j]?).getD 0)) (oldA s) s s.heap := st_row "HexArbiter$BridgeList" "LOW_ROWS" [0, 0, 1] (by decide) hts hg (in_tb (List.mem_of_getElem? (i := 666) (by decide +kernel))) (in_tb (List.mem_of_getElem? (i := 9) (by decide +kernel))) (by decide +kernel) (by decide +kernel) (by decide +kernel)
theorem st_r5 (hts : ∀ w ∈ lw_tbl, w.before #[Value.ref b] s = true) (hg : ∀ w ∈ gvL, w.before #[Value.ref b] s = true) : ∃ t : Nat, va_Z "HexArbiter$BridgeList" "LOW_COLUMNS" "[I" (.ref t) (oldA s) s s.heap ∧ va_T .int t ([-1, 1, -1] : List Int32).length (fun j => .int ((([-1, 1, -1] : List Int32)[j]?).getD 0)) (oldA s) s s.heap := st_row "HexArbiter$BridgeList" "LOW_COLUMNS" [-1, 1, -1] (by decide) hts hg (in_tb (List.mem_of_getElem? (i := 668) (by decide +kernel))) (in_tb (List.mem_of_getElem? (i := 9) (by decide +kernel))) (by decide +kernel) (by decide +kernel) (by decide +kernel)
theorem st_r6 (hts : ∀ w ∈ lw_tbl, w.before #[Value.ref b] s = true) (hg : ∀ w ∈ gvL, w.before #[Value.ref b] s = true) : ∃ t : Nat, va_Z "HexArbiter$BridgeList" "HIGH_ROWS" "[I" (.ref t) (oldA s) s s.heap ∧ va_T .int t ([1, 1, 1] : List Int32).length (fun j => .int ((([1, 1, 1] : List Int32)[j]?).getD 0)) (oldA s) s s.heap := st_row "HexArbiter$BridgeList" "HIGH_ROWS" [1, 1, 1] (by decide) hts hg (in_tb (List.mem_of_getElem? (i := 670) (by decide +kernel))) (in_tb (List.mem_of_getElem? (i := 9) (by decide +kernel))) (by decide +kernel) (by decide +kernel) (by decide +kernel)
theorem st_r7 (hts : ∀ w ∈ lw_tbl, w.before #[Value.ref b] s = true) (hg : ∀ w ∈ gvL, w.before #[Value.ref b] s = true) : ∃ t : Nat, va_Z "HexArbiter$BridgeList" "HIGH_COLUMNS" "[I" (.ref t) (oldA s) s s.heap ∧ va_T .int t ([-1, 0, 0] : List Int32).length (fun j => .int ((([-1, 0, 0] : List Int32)[j]?).getD 0)) (oldA s) s s.heap := st_row "HexArbiter$BridgeList" "HIGH_COLUMNS" [-1, 0, 0] (by decide) hts hg (in_tb (List.mem_of_getElem? (i := 672) (by decide +kernel))) (in_tb (List.mem_of_getElem? (i := 9) (by decide +kernel))) (by decide +kernel) (by decide +kernel) (by decide +kernel)
theorem st_s2000 (hts : ∀ w ∈ lw_tbl, w.before #[Value.ref b] s = true) (hg : ∀ w ∈ gvL, w.before #[Value.ref b] s = true) : ∃ a t : Nat, vk_R "HexArbiter$Reader" 59 "board" a s ∧ va_O "java/lang/String" a (oldA s) s s.heap ∧ va_OF "java/lang/String" "coder" "B" (.int 0) a (oldA s) s s.heap ∧ va_OF "java/lang/String" "value" "[B" (.ref t) a (oldA s) s s.heap ∧ va_T .byte t ([98, 111, 97, 114, 100] : List Int).length (fun j => .int (Int32.ofInt ((([98, 111, 97, 114, 100] : List Int)[j]?).getD 0))) (oldA s) s s.heap := st_str "HexArbiter$Reader" 59 "board" [98, 111, 97, 114, 100] (by decide) hts hg (in_tb (List.mem_of_getElem? (i := 451) (by decide +kernel))) (by decide +kernel) (by decide +kernel) (by decide +kernel) (by decide +kernel) (by decide +kernel)
theorem st_s2001 (hts : ∀ w ∈ lw_tbl, w.before #[Value.ref b] s = true) (hg : ∀ w ∈ gvL, w.before #[Value.ref b] s = true) : ∃ a t : Nat, vk_R "HexArbiter$Reader" 77 "swap" a s ∧ va_O "java/lang/String" a (oldA s) s s.heap ∧ va_OF "java/lang/String" "coder" "B" (.int 0) a (oldA s) s s.heap ∧ va_OF "java/lang/String" "value" "[B" (.ref t) a (oldA s) s s.heap ∧ va_T .byte t ([115, 119, 97, 112] : List Int).length (fun j => .int (Int32.ofInt ((([115, 119, 97, 112] : List Int)[j]?).getD 0))) (oldA s) s s.heap := st_str "HexArbiter$Reader" 77 "swap" [115, 119, 97, 112] (by decide) hts hg (in_tb (List.mem_of_getElem? (i := 510) (by decide +kernel))) (by decide +kernel) (by decide +kernel) (by decide +kernel) (by decide +kernel) (by decide +kernel)
theorem st_s2002 (hts : ∀ w ∈ lw_tbl, w.before #[Value.ref b] s = true) (hg : ∀ w ∈ gvL, w.before #[Value.ref b] s = true) : ∃ a t : Nat, vk_R "HexArbiter$Reader" 83 "move" a s ∧ va_O "java/lang/String" a (oldA s) s s.heap ∧ va_OF "java/lang/String" "coder" "B" (.int 0) a (oldA s) s s.heap ∧ va_OF "java/lang/String" "value" "[B" (.ref t) a (oldA s) s s.heap ∧ va_T .byte t ([109, 111, 118, 101] : List Int).length (fun j => .int (Int32.ofInt ((([109, 111, 118, 101] : List Int)[j]?).getD 0))) (oldA s) s s.heap := st_str "HexArbiter$Reader" 83 "move" [109, 111, 118, 101] (by decide) hts hg (in_tb (List.mem_of_getElem? (i := 515) (by decide +kernel))) (by decide +kernel) (by decide +kernel) (by decide +kernel) (by decide +kernel) (by decide +kernel)
theorem st_s2003 (hts : ∀ w ∈ lw_tbl, w.before #[Value.ref b] s = true) (hg : ∀ w ∈ gvL, w.before #[Value.ref b] s = true) : ∃ a t : Nat, vk_R "HexArbiter$Reader" 85 "turn" a s ∧ va_O "java/lang/String" a (oldA s) s s.heap ∧ va_OF "java/lang/String" "coder" "B" (.int 0) a (oldA s) s s.heap ∧ va_OF "java/lang/String" "value" "[B" (.ref t) a (oldA s) s s.heap ∧ va_T .byte t ([116, 117, 114, 110] : List Int).length (fun j => .int (Int32.ofInt ((([116, 117, 114, 110] : List Int)[j]?).getD 0))) (oldA s) s s.heap := st_str "HexArbiter$Reader" 85 "turn" [116, 117, 114, 110] (by decide) hts hg (in_tb (List.mem_of_getElem? (i := 516) (by decide +kernel))) (by decide +kernel) (by decide +kernel) (by decide +kernel) (by decide +kernel) (by decide +kernel)
theorem st_s2004 (hts : ∀ w ∈ lw_tbl, w.before #[Value.ref b] s = true) (hg : ∀ w ∈ gvL, w.before #[Value.ref b] s = true) : ∃ a t : Nat, vk_R "HexArbiter$Reader" 135 "red" a s ∧ va_O "java/lang/String" a (oldA s) s s.heap ∧ va_OF "java/lang/String" "coder" "B" (.int 0) a (oldA s) s s.heap ∧ va_OF "java/lang/String" "value" "[B" (.ref t) a (oldA s) s s.heap ∧ va_T .byte t ([114, 101, 100] : List Int).length (fun j => .int (Int32.ofInt ((([114, 101, 100] : List Int)[j]?).getD 0))) (oldA s) s s.heap := st_str "HexArbiter$Reader" 135 "red" [114, 101, 100] (by decide) hts hg (in_tb (List.mem_of_getElem? (i := 521) (by decide +kernel))) (by decide +kernel) (by decide +kernel) (by decide +kernel) (by decide +kernel) (by decide +kernel)
theorem st_s2005 (hts : ∀ w ∈ lw_tbl, w.before #[Value.ref b] s = true) (hg : ∀ w ∈ gvL, w.before #[Value.ref b] s = true) : ∃ a t : Nat, vk_R "HexArbiter$Reader" 137 "blue" a s ∧ va_O "java/lang/String" a (oldA s) s s.heap ∧ va_OF "java/lang/String" "coder" "B" (.int 0) a (oldA s) s s.heap ∧ va_OF "java/lang/String" "value" "[B" (.ref t) a (oldA s) s s.heap ∧ va_T .byte t ([98, 108, 117, 101] : List Int).length (fun j => .int (Int32.ofInt ((([98, 108, 117, 101] : List Int)[j]?).getD 0))) (oldA s) s s.heap := st_str "HexArbiter$Reader" 137 "blue" [98, 108, 117, 101] (by decide) hts hg (in_tb (List.mem_of_getElem? (i := 522) (by decide +kernel))) (by decide +kernel) (by decide +kernel) (by decide +kernel) (by decide +kernel) (by decide +kernel)
theorem st_s2010 (hts : ∀ w ∈ lw_tbl, w.before #[Value.ref b] s = true) (hg : ∀ w ∈ gvL, w.before #[Value.ref b] s = true) : ∃ a t : Nat, vk_R "HexArbiterModel" 174 "board" a s ∧ va_O "java/lang/String" a (oldA s) s s.heap ∧ va_OF "java/lang/String" "coder" "B" (.int 0) a (oldA s) s s.heap ∧ va_OF "java/lang/String" "value" "[B" (.ref t) a (oldA s) s s.heap ∧ va_T .byte t ([98, 111, 97, 114, 100] : List Int).length (fun j => .int (Int32.ofInt ((([98, 111, 97, 114, 100] : List Int)[j]?).getD 0))) (oldA s) s s.heap := st_str "HexArbiterModel" 174 "board" [98, 111, 97, 114, 100] (by decide) hts hg (in_tb (List.mem_of_getElem? (i := 1439) (by decide +kernel))) (by decide +kernel) (by decide +kernel) (by decide +kernel) (by decide +kernel) (by decide +kernel)
theorem st_s2011 (hts : ∀ w ∈ lw_tbl, w.before #[Value.ref b] s = true) (hg : ∀ w ∈ gvL, w.before #[Value.ref b] s = true) : ∃ a t : Nat, vk_R "HexArbiterModel" 149 "swap" a s ∧ va_O "java/lang/String" a (oldA s) s s.heap ∧ va_OF "java/lang/String" "coder" "B" (.int 0) a (oldA s) s s.heap ∧ va_OF "java/lang/String" "value" "[B" (.ref t) a (oldA s) s s.heap ∧ va_T .byte t ([115, 119, 97, 112] : List Int).length (fun j => .int (Int32.ofInt ((([115, 119, 97, 112] : List Int)[j]?).getD 0))) (oldA s) s s.heap := st_str "HexArbiterModel" 149 "swap" [115, 119, 97, 112] (by decide) hts hg (in_tb (List.mem_of_getElem? (i := 1483) (by decide +kernel))) (by decide +kernel) (by decide +kernel) (by decide +kernel) (by decide +kernel) (by decide +kernel)
theorem st_s2012 (hts : ∀ w ∈ lw_tbl, w.before #[Value.ref b] s = true) (hg : ∀ w ∈ gvL, w.before #[Value.ref b] s = true) : ∃ a t : Nat, vk_R "HexArbiterModel" 188 "move" a s ∧ va_O "java/lang/String" a (oldA s) s s.heap ∧ va_OF "java/lang/String" "coder" "B" (.int 0) a (oldA s) s s.heap ∧ va_OF "java/lang/String" "value" "[B" (.ref t) a (oldA s) s s.heap ∧ va_T .byte t ([109, 111, 118, 101] : List Int).length (fun j => .int (Int32.ofInt ((([109, 111, 118, 101] : List Int)[j]?).getD 0))) (oldA s) s s.heap := st_str "HexArbiterModel" 188 "move" [109, 111, 118, 101] (by decide) hts hg (in_tb (List.mem_of_getElem? (i := 1556) (by decide +kernel))) (by decide +kernel) (by decide +kernel) (by decide +kernel) (by decide +kernel) (by decide +kernel)
theorem st_s2013 (hts : ∀ w ∈ lw_tbl, w.before #[Value.ref b] s = true) (hg : ∀ w ∈ gvL, w.before #[Value.ref b] s = true) : ∃ a t : Nat, vk_R "HexArbiterModel" 183 "turn" a s ∧ va_O "java/lang/String" a (oldA s) s s.heap ∧ va_OF "java/lang/String" "coder" "B" (.int 0) a (oldA s) s s.heap ∧ va_OF "java/lang/String" "value" "[B" (.ref t) a (oldA s) s s.heap ∧ va_T .byte t ([116, 117, 114, 110] : List Int).length (fun j => .int (Int32.ofInt ((([116, 117, 114, 110] : List Int)[j]?).getD 0))) (oldA s) s s.heap := st_str "HexArbiterModel" 183 "turn" [116, 117, 114, 110] (by decide) hts hg (in_tb (List.mem_of_getElem? (i := 1551) (by decide +kernel))) (by decide +kernel) (by decide +kernel) (by decide +kernel) (by decide +kernel) (by decide +kernel)
theorem st_s2014 (hts : ∀ w ∈ lw_tbl, w.before #[Value.ref b] s = true) (hg : ∀ w ∈ gvL, w.before #[Value.ref b] s = true) : ∃ a t : Nat, vk_R "HexArbiterModel" 167 "red" a s ∧ va_O "java/lang/String" a (oldA s) s s.heap ∧ va_OF "java/lang/String" "coder" "B" (.int 0) a (oldA s) s s.heap ∧ va_OF "java/lang/String" "value" "[B" (.ref t) a (oldA s) s s.heap ∧ va_T .byte t ([114, 101, 100] : List Int).length (fun j => .int (Int32.ofInt ((([114, 101, 100] : List Int)[j]?).getD 0))) (oldA s) s s.heap := st_str "HexArbiterModel" 167 "red" [114, 101, 100] (by decide) hts hg (in_tb (List.mem_of_getElem? (i := 1484) (by decide +kernel))) (by decide +kernel) (by decide +kernel) (by decide +kernel) (by decide +kernel) (by decide +kernel)
theorem st_s2015 (hts : ∀ w ∈ lw_tbl, w.before #[Value.ref b] s = true) (hg : ∀ w ∈ gvL, w.before #[Value.ref b] s = true) : ∃ a t : Nat, vk_R "HexArbiterModel" 169 "blue" a s ∧ va_O "java/lang/String" a (oldA s) s s.heap ∧ va_OF "java/lang/String" "coder" "B" (.int 0) a (oldA s) s s.heap ∧ va_OF "java/lang/String" "value" "[B" (.ref t) a (oldA s) s s.heap ∧ va_T .byte t ([98, 108, 117, 101] : List Int).length (fun j => .int (Int32.ofInt ((([98, 108, 117, 101] : List Int)[j]?).getD 0))) (oldA s) s s.heap := st_str "HexArbiterModel" 169 "blue" [98, 108, 117, 101] (by decide) hts hg (in_tb (List.mem_of_getElem? (i := 1550) (by decide +kernel))) (by decide +kernel) (by decide +kernel) (by decide +kernel) (by decide +kernel) (by decide +kernel)
theorem st_s2200 (hts : ∀ w ∈ lw_tbl, w.before #[Value.ref b] s = true) (hg : ∀ w ∈ gvL, w.before #[Value.ref b] s = true) : ∃ a : Nat, vk_R "HexArbiter" 175 "what is out of range" a s ∧ va_O "java/lang/String" a (oldA s) s s.heap ∧ (Term.string "HexArbiter" 175).eval #[Value.ref b] s none [] s = some (.ref a) := st_msg "HexArbiter" 175 "what is out of range" hts hg (in_tb (List.mem_of_getElem? (i := 889) (by decide +kernel))) (by decide +kernel)
theorem st_s2201 (hts : ∀ w ∈ lw_tbl, w.before #[Value.ref b] s = true) (hg : ∀ w ∈ gvL, w.before #[Value.ref b] s = true) : ∃ a : Nat, vk_R "HexArbiter" 353 "there is no such cell" a s ∧ va_O "java/lang/String" a (oldA s) s s.heap ∧ (Term.string "HexArbiter" 353).eval #[Value.ref b] s none [] s = some (.ref a) := st_msg "HexArbiter" 353 "there is no such cell" hts hg (in_tb (List.mem_of_getElem? (i := 936) (by decide +kernel))) (by decide +kernel)
theorem st_s2202 (hts : ∀ w ∈ lw_tbl, w.before #[Value.ref b] s = true) (hg : ∀ w ∈ gvL, w.before #[Value.ref b] s = true) : ∃ a : Nat, vk_R "HexArbiter" 357 "a value is out of range" a s ∧ va_O "java/lang/String" a (oldA s) s s.heap ∧ (Term.string "HexArbiter" 357).eval #[Value.ref b] s none [] s = some (.ref a) := st_msg "HexArbiter" 357 "a value is out of range" hts hg (in_tb (List.mem_of_getElem? (i := 961) (by decide +kernel))) (by decide +kernel)
theorem st_s2203 (hts : ∀ w ∈ lw_tbl, w.before #[Value.ref b] s = true) (hg : ∀ w ∈ gvL, w.before #[Value.ref b] s = true) : ∃ a : Nat, vk_R "HexArbiter" 355 "side is out of range" a s ∧ va_O "java/lang/String" a (oldA s) s s.heap ∧ (Term.string "HexArbiter" 355).eval #[Value.ref b] s none [] s = some (.ref a) := st_msg "HexArbiter" 355 "side is out of range" hts hg (in_tb (List.mem_of_getElem? (i := 985) (by decide +kernel))) (by decide +kernel)
theorem st_s2204 (hts : ∀ w ∈ lw_tbl, w.before #[Value.ref b] s = true) (hg : ∀ w ∈ gvL, w.before #[Value.ref b] s = true) : ∃ a : Nat, vk_R "HexArbiter" 331 "there is no such row" a s ∧ va_O "java/lang/String" a (oldA s) s s.heap ∧ (Term.string "HexArbiter" 331).eval #[Value.ref b] s none [] s = some (.ref a) := st_msg "HexArbiter" 331 "there is no such row" hts hg (in_tb (List.mem_of_getElem? (i := 1265) (by decide +kernel))) (by decide +kernel)
end START
def rowV : List (List Int32) := [[-1, -1, 0, 0, 1, 1], [0, 1, -1, 1, -1, 0], [1, 1, 2], [-2, 1, -1], [0, 0, 1], [-1, 1, -1], [1, 1, 1], [-1, 0, 0]]
def oldV (L : Nat) (xs : Nat → Int32) (z : Int32) (i j : Nat) : Int32 := if i = 1200 then (if j < L then xs j else 0) else if i = 1900 then z else if 1000 ≤ i then ((((rowV[i - 1000]?).getD [])[j]?).getD 0) else 0
theorem st_kn {s : State} {args : Array Value} (hts : ∀ w ∈ lw_tbl, w.before args s = true) (c : Nat) (n : Nat) (hin : ∀ w ∈ u_ws (cR c) (cT c) (cn c), w ∈ lw_tbl) (hi : Cond.instantiable (cR c) n ∈ lw_tbl) : ∃ (cC : ClassId) (iS : Nat → Nat), u_Kn s (cR c) (cT c) (cn c) cC iS := u_known hts hin (hts _ hi)
set_option maxRecDepth 100000 in
theorem st_all {b : Addr} {s : State} {L : Nat} {xs : Nat → Int32} (hts : ∀ w ∈ lw_tbl, w.before #[Value.ref b] s = true) (hg : ∀ w ∈ gvL, w.before #[Value.ref b] s = true) (hX : va_X b L xs s s.heap) (hbl : b < s.heap.size) :
    ∃ (C : Cx) (z : Int32), xB C = s.heap.size ∧ xO C 1200 = b ∧ xL C = L ∧ xV C = oldV L xs z ∧ St C s s.heap := by
  obtain ⟨c0, i0, k0⟩ := st_kn hts 0 8 inws0 (in_tb (List.mem_of_getElem? (i := 210) (by decide +kernel)))
  obtain ⟨c1, i1, k1⟩ := st_kn hts 1 2 inws1 (in_tb (List.mem_of_getElem? (i := 146) (by decide +kernel)))
  obtain ⟨c2, i2, k2⟩ := st_kn hts 2 6 inws2 (in_tb (List.mem_of_getElem? (i := 280) (by decide +kernel)))
  obtain ⟨c3, i3, k3⟩ := st_kn hts 3 4 inws3 (in_tb (List.mem_of_getElem? (i := 305) (by decide +kernel)))
  obtain ⟨c4, i4, k4⟩ := st_kn hts 4 4 inws4 (in_tb (List.mem_of_getElem? (i := 261) (by decide +kernel)))
  obtain ⟨c5, i5, k5⟩ := st_kn hts 5 5 inws5 (in_tb (List.mem_of_getElem? (i := 34) (by decide +kernel)))
  obtain ⟨c6, i6, k6⟩ := st_kn hts 6 3 inws6 (in_tb (List.mem_of_getElem? (i := 126) (by decide +kernel)))
  obtain ⟨c7, i7, k7⟩ := st_kn hts 7 6 inws7 (in_tb (List.mem_of_getElem? (i := 64) (by decide +kernel)))
  obtain ⟨c8, i8, k8⟩ := st_kn hts 8 4 inws8 (in_tb (List.mem_of_getElem? (i := 242) (by decide +kernel)))
  obtain ⟨c9, i9, k9⟩ := st_kn hts 9 7 inws9 (in_tb (List.mem_of_getElem? (i := 89) (by decide +kernel)))
  obtain ⟨c10, i10, k10⟩ := st_kn hts 10 11 inws10 (in_tb (List.mem_of_getElem? (i := 164) (by decide +kernel)))
  obtain ⟨c11, i11, k11⟩ := st_kn hts 11 16 inws11 (in_tb (List.mem_of_getElem? (i := 26) (by decide +kernel)))
  obtain ⟨c12, i12, k12⟩ := st_kn hts 12 36 inws12 (in_tb (List.mem_of_getElem? (i := 1295) (by decide +kernel)))
  obtain ⟨a0, ha0⟩ := st_arr (atype := .int) (hts _ (in_tb (List.mem_of_getElem? (i := 62) (by decide +kernel))))
  obtain ⟨a1, ha1⟩ := st_arr (atype := .long) (hts _ (in_tb (List.mem_of_getElem? (i := 1963) (by decide +kernel))))
  obtain ⟨a2, ha2⟩ := st_arr (atype := .double) (hts _ (in_tb (List.mem_of_getElem? (i := 1964) (by decide +kernel))))
  obtain ⟨a3, ha3⟩ := st_arr (atype := .boolean) (hts _ (in_tb (List.mem_of_getElem? (i := 1413) (by decide +kernel))))
  obtain ⟨a4, ha4⟩ := st_arr (atype := .byte) (hts _ (in_tb (List.mem_of_getElem? (i := 601) (by decide +kernel))))
  obtain ⟨a5, ha5⟩ := st_arrq (C := "HexArbiter$Position") (hts _ (in_tb (List.mem_of_getElem? (i := 132) (by decide +kernel))))
  obtain ⟨r0, z0, t0⟩ := st_r0 hts hg
  obtain ⟨r1, z1, t1⟩ := st_r1 hts hg
  obtain ⟨r2, z2, t2⟩ := st_r2 hts hg
  obtain ⟨r3, z3, t3⟩ := st_r3 hts hg
  obtain ⟨r4, z4, t4⟩ := st_r4 hts hg
  obtain ⟨r5, z5, t5⟩ := st_r5 hts hg
  obtain ⟨r6, z6, t6⟩ := st_r6 hts hg
  obtain ⟨r7, z7, t7⟩ := st_r7 hts hg
  obtain ⟨s2000, v2000, e2000, o2000, f2000, g2000, q2000⟩ := st_s2000 hts hg
  obtain ⟨s2001, v2001, e2001, o2001, f2001, g2001, q2001⟩ := st_s2001 hts hg
  obtain ⟨s2002, v2002, e2002, o2002, f2002, g2002, q2002⟩ := st_s2002 hts hg
  obtain ⟨s2003, v2003, e2003, o2003, f2003, g2003, q2003⟩ := st_s2003 hts hg
  obtain ⟨s2004, v2004, e2004, o2004, f2004, g2004, q2004⟩ := st_s2004 hts hg
  obtain ⟨s2005, v2005, e2005, o2005, f2005, g2005, q2005⟩ := st_s2005 hts hg
  obtain ⟨s2010, v2010, e2010, o2010, f2010, g2010, q2010⟩ := st_s2010 hts hg
  obtain ⟨s2011, v2011, e2011, o2011, f2011, g2011, q2011⟩ := st_s2011 hts hg
  obtain ⟨s2012, v2012, e2012, o2012, f2012, g2012, q2012⟩ := st_s2012 hts hg
  obtain ⟨s2013, v2013, e2013, o2013, f2013, g2013, q2013⟩ := st_s2013 hts hg
  obtain ⟨s2014, v2014, e2014, o2014, f2014, g2014, q2014⟩ := st_s2014 hts hg
  obtain ⟨s2015, v2015, e2015, o2015, f2015, g2015, q2015⟩ := st_s2015 hts hg
  obtain ⟨s2200, e2200, -, -⟩ := st_s2200 hts hg
  obtain ⟨s2201, e2201, -, -⟩ := st_s2201 hts hg
  obtain ⟨s2202, e2202, -, -⟩ := st_s2202 hts hg
  obtain ⟨s2203, e2203, -, -⟩ := st_s2203 hts hg
  obtain ⟨s2204, e2204, -, -⟩ := st_s2204 hts hg
  have hpre : ∃ (z : Int32) (y : Nat), va_Z "jdk/internal/util/Preconditions" "SIOOBE_FORMATTER" "Ljava/util/function/BiFunction;" (if z = 0 then .null else .ref y) (oldA s) s s.heap := by
    rcases va_Zqof (A := oldA s) (hts _ (in_tb (List.mem_of_getElem? (i := 481) (by decide +kernel)))) (hts _ (in_tb (List.mem_of_getElem? (i := 17) (by decide +kernel)))) (hg (.isRef (.static "jdk/internal/util/Preconditions" "SIOOBE_FORMATTER" "Ljava/util/function/BiFunction;")) (by decide +kernel)) (oldA_no s) with h | ⟨y, h⟩
    · exact ⟨0, 0, by rw [if_pos rfl]; exact h⟩
    · exact ⟨1, y, by rw [if_neg (by decide)]; exact h⟩
  obtain ⟨z, y19, hz19⟩ := hpre
  let C : Cx := ((fun k => match k with | 0 => c0 | 1 => c1 | 2 => c2 | 3 => c3 | 4 => c4 | 5 => c5 | 6 => c6 | 7 => c7 | 8 => c8 | 9 => c9 | 10 => c10 | 11 => c11 | _ => c12, fun k => match k with | 0 => i0 | 1 => i1 | 2 => i2 | 3 => i3 | 4 => i4 | 5 => i5 | 6 => i6 | 7 => i7 | 8 => i8 | 9 => i9 | 10 => i10 | 11 => i11 | _ => i12), fun ty => match ty with | .int => a0 | .long => a1 | .double => a2 | .boolean => a3 | .byte => a4 | _ => a5, s.heap.size, fun i => match i with | 1000 => r0 | 1001 => r1 | 1002 => r2 | 1003 => r3 | 1004 => r4 | 1005 => r5 | 1006 => r6 | 1007 => r7 | 1200 => b | 1900 => y19 | 2000 => s2000 | 2001 => s2001 | 2002 => s2002 | 2003 => s2003 | 2004 => s2004 | 2005 => s2005 | 2010 => s2010 | 2011 => s2011 | 2012 => s2012 | 2013 => s2013 | 2014 => s2014 | 2015 => s2015 | 2200 => s2200 | 2201 => s2201 | 2202 => s2202 | 2203 => s2203 | 2204 => s2204 | 2100 => v2000 | 2101 => v2001 | 2102 => v2002 | 2103 => v2003 | 2104 => v2004 | 2105 => v2005 | 2110 => v2010 | 2111 => v2011 | 2112 => v2012 | 2113 => v2013 | 2114 => v2014 | 2115 => v2015 | _ => 0, L, oldV L xs z)
  refine ⟨C, z, rfl, rfl, rfl, rfl, ⟨fun c q hq => ?_, fun k q hq => ?_⟩, ?_, ?_, ?_, ⟨?_, ?_⟩, ⟨⟨?_, ?_⟩, ?_, ?_, ?_⟩⟩
  · match c, hq with
    | 0, hq => cases hq; exact k0
    | 1, hq => cases hq; exact k1
    | 2, hq => cases hq; exact k2
    | 3, hq => cases hq; exact k3
    | 4, hq => cases hq; exact k4
    | 5, hq => cases hq; exact k5
    | 6, hq => cases hq; exact k6
    | 7, hq => cases hq; exact k7
    | 8, hq => cases hq; exact k8
    | 9, hq => cases hq; exact k9
    | 10, hq => cases hq; exact k10
    | 11, hq => cases hq; exact k11
    | 12, hq => cases hq; exact k12
    | c + 13, hq => exact absurd (List.getElem?_eq_some_iff.mp hq).1 (by simp [vwCl])
  · match k, hq with
    | 0, hq => cases hq; exact ha0
    | 1, hq => cases hq; exact ha1
    | 2, hq => cases hq; exact ha2
    | 3, hq => cases hq; exact ha3
    | 4, hq => cases hq; exact ha4
    | 5, hq => cases hq; exact ha5
    | k + 6, hq => exact absurd (List.getElem?_eq_some_iff.mp hq).1 (by simp [tyl])
  · intro w hw
    have h1 := (List.mem_filter.mp hw).1
    have h2 := (List.mem_filter.mp hw).2
    have h3 := hts _ (in_tb h1)
    revert h2 h3
    clear hw h1
    cases w <;> intro h2 h3 <;> first | exact va_Nw.of rfl h3 | cases h2
  · have row : ∀ (i t : Nat) (f : List Int32), va_T .int t f.length (fun j => .int ((f[j]?).getD 0)) (oldA s) s s.heap → xO C i = t → (∀ j, j < f.length → xV C i j = (f[j]?).getD 0) → roC C i f.length s s.heap := by
      intro i t f ⟨cl, h1, h2, h3, h4, h5, h6, h7⟩ e1 e2
      refine ⟨cl, by rw [e1]; exact Nat.not_le.mp h7, by rw [e1]; exact h1, h2, h3, ⟨h4, h5⟩, fun j hj => ?_⟩
      rw [e2 j hj]; exact h6 j hj
    refine List.forall_mem_cons.mpr ⟨?_, List.forall_mem_cons.mpr ⟨?_, List.forall_mem_cons.mpr ⟨?_, List.forall_mem_cons.mpr ⟨?_, List.forall_mem_cons.mpr ⟨?_, List.forall_mem_cons.mpr ⟨?_, List.forall_mem_cons.mpr ⟨?_, List.forall_mem_cons.mpr ⟨?_, List.forall_mem_cons.mpr ⟨?_, fun _ h => absurd h List.not_mem_nil⟩⟩⟩⟩⟩⟩⟩⟩⟩
    · exact row 1000 r0 [-1, -1, 0, 0, 1, 1] t0 rfl (by intro j hj; rfl)
    · exact row 1001 r1 [0, 1, -1, 1, -1, 0] t1 rfl (by intro j hj; rfl)
    · exact row 1002 r2 [1, 1, 2] t2 rfl (by intro j hj; rfl)
    · exact row 1003 r3 [-2, 1, -1] t3 rfl (by intro j hj; rfl)
    · exact row 1004 r4 [0, 0, 1] t4 rfl (by intro j hj; rfl)
    · exact row 1005 r5 [-1, 1, -1] t5 rfl (by intro j hj; rfl)
    · exact row 1006 r6 [1, 1, 1] t6 rfl (by intro j hj; rfl)
    · exact row 1007 r7 [-1, 0, 0] t7 rfl (by intro j hj; rfl)
    · obtain ⟨cl, h1, h2, h3, h4, h5⟩ := hX
      refine ⟨cl, hbl, h1, h2, h3, ⟨Nat.le_of_eq h4.symm, by rw [h4]⟩, fun j hj => ?_⟩
      rw [h5 j hj]
      show some (Value.int (xs j)) = some (.int (if j < L then xs j else 0))
      rw [if_pos hj]
  · refine List.forall_mem_cons.mpr ⟨?_, List.forall_mem_cons.mpr ⟨?_, List.forall_mem_cons.mpr ⟨?_, List.forall_mem_cons.mpr ⟨?_, List.forall_mem_cons.mpr ⟨?_, List.forall_mem_cons.mpr ⟨?_, List.forall_mem_cons.mpr ⟨?_, List.forall_mem_cons.mpr ⟨?_, fun _ h => absurd h List.not_mem_nil⟩⟩⟩⟩⟩⟩⟩⟩
    · exact z0
    · exact z1
    · exact z2
    · exact z3
    · exact z4
    · exact z5
    · exact z6
    · exact z7
  · exact vx_Zqof (hts _ (in_tb (List.mem_of_getElem? (i := 876) (by decide +kernel)))) (hts _ (in_tb (List.mem_of_getElem? (i := 20) (by decide +kernel)))) (hg (.isRef (.static "java/lang/Throwable" "UNASSIGNED_STACK" "[Ljava/lang/StackTraceElement;")) (by decide +kernel)) (oldA_no s)
  · exact vx_Zqof (hts _ (in_tb (List.mem_of_getElem? (i := 878) (by decide +kernel)))) (hts _ (in_tb (List.mem_of_getElem? (i := 20) (by decide +kernel)))) (hg (.isRef (.static "java/lang/Throwable" "SUPPRESSED_SENTINEL" "Ljava/util/List;")) (by decide +kernel)) (oldA_no s)
  · refine ⟨fun w hw => ?_, va_Nc.of (hg _ (show Cond.not (.castable "java/lang/IllegalArgumentException" "java/lang/IndexOutOfBoundsException") ∈ gvL by decide +kernel)), va_Nc.of (hg _ (show Cond.not (.castable "java/lang/IndexOutOfBoundsException" "java/lang/IllegalArgumentException") ∈ gvL by decide +kernel)), ?_⟩
    · exact va_tabs (fw_2 hw).2 rfl (hts _ (in_tb (List.mem_filter.mp hw).1))
    · exact va_AO.of (hts _ (in_tb (List.mem_of_getElem? (i := 132) (by decide +kernel))))
  · refine List.forall_mem_cons.mpr ⟨?_, List.forall_mem_cons.mpr ⟨?_, List.forall_mem_cons.mpr ⟨?_, List.forall_mem_cons.mpr ⟨?_, List.forall_mem_cons.mpr ⟨?_, List.forall_mem_cons.mpr ⟨?_, List.forall_mem_cons.mpr ⟨?_, List.forall_mem_cons.mpr ⟨?_, List.forall_mem_cons.mpr ⟨?_, List.forall_mem_cons.mpr ⟨?_, List.forall_mem_cons.mpr ⟨?_, List.forall_mem_cons.mpr ⟨?_, List.forall_mem_cons.mpr ⟨?_, List.forall_mem_cons.mpr ⟨?_, List.forall_mem_cons.mpr ⟨?_, List.forall_mem_cons.mpr ⟨?_, List.forall_mem_cons.mpr ⟨?_, fun _ h => absurd h List.not_mem_nil⟩⟩⟩⟩⟩⟩⟩⟩⟩⟩⟩⟩⟩⟩⟩⟩⟩
    · exact e2000
    · exact e2001
    · exact e2002
    · exact e2003
    · exact e2004
    · exact e2005
    · exact e2200
    · exact e2201
    · exact e2202
    · exact e2203
    · exact e2204
    · exact e2010
    · exact e2011
    · exact e2014
    · exact e2015
    · exact e2013
    · exact e2012
  · intro w hw
    have hc : w = 0 ∨ w = 1 ∨ w = 2 ∨ w = 3 ∨ w = 4 ∨ w = 5 ∨ w = 10 ∨ w = 11 ∨ w = 12 ∨ w = 13 ∨ w = 14 ∨ w = 15 := by unfold isStr at hw; omega
    rcases hc with rfl | rfl | rfl | rfl | rfl | rfl | rfl | rfl | rfl | rfl | rfl | rfl
    · exact ⟨o2000, f2000, g2000, q2000⟩
    · exact ⟨o2001, f2001, g2001, q2001⟩
    · exact ⟨o2002, f2002, g2002, q2002⟩
    · exact ⟨o2003, f2003, g2003, q2003⟩
    · exact ⟨o2004, f2004, g2004, q2004⟩
    · exact ⟨o2005, f2005, g2005, q2005⟩
    · exact ⟨o2010, f2010, g2010, q2010⟩
    · exact ⟨o2011, f2011, g2011, q2011⟩
    · exact ⟨o2012, f2012, g2012, q2012⟩
    · exact ⟨o2013, f2013, g2013, q2013⟩
    · exact ⟨o2014, f2014, g2014, q2014⟩
    · exact ⟨o2015, f2015, g2015, q2015⟩
  · exact va_Zof (hts _ (in_tb (List.mem_of_getElem? (i := 465) (by decide +kernel)))) (hts _ (in_tb (List.mem_of_getElem? (i := 15) (by decide +kernel)))) (va_eqi (hg (.eq (.static "java/lang/String" "COMPACT_STRINGS" "Z") (.int 1)) (by decide +kernel))) (oldA_no s)
  · exact hz19
/-- the machine's state before the law, in whole numbers -/
def sgS (L : Nat) (xs : Nat → Int32) (z : Int32) : Sg := (fun a k => if a < 1000 then 0 else (oldV L xs z a k).toInt, fun _ _ => 0, fun _ _ => 0)

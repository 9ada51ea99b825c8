/-! ===== the start: what the Statement gives, in the layer's words ===== -/
def gvL : List Cond := flatC (Jvm.Cond.and given_1 narrow_1)
theorem in_tb {w : Cond} (h : w ∈ tables_1) : w ∈ lw_tbl := List.mem_append_right _ h
theorem st_arr {args : Array Value} {s : State} {atype : ArrayType} (h : (Cond.arrayClass (newarray.typeOf atype)).before args s = true) : ∃ cA : ClassId, ArrOfT s cA (newarray.typeOf atype) ∧ va_RA s cA (newarray.typeOf atype) := by
  obtain ⟨cA, kA, comp, h1, h2, h3⟩ := Cond.arrayClass_spec (args := args) (first := s) (o := none) (s := s) (idx := []) h
  exact ⟨cA, fun n z => ⟨(fun k h => by cases h), kA, h2, comp, h3⟩, by cases atype <;> exact h1⟩
theorem st_arrq {args : Array Value} {s : State} {C : String} (h : (Cond.arrayOver (.object C)).before args s = true) : ∃ cA : ClassId, ArrOfT s cA (.object C) ∧ va_RA s cA (.object C) := by
  obtain ⟨comp, c, k, h1, -, h2, h3, h4⟩ := Cond.arrayOver_spec (args := args) (first := s) (o := none) (s := s) (idx := []) h
  exact ⟨c, fun n z => ⟨(fun k h => by cases h), k, h2, comp, h3⟩, k, comp, h2, h3, h1, h4⟩
/-- the old cells -/
abbrev oldA (s : State) : Nat → Prop := fun q => s.heap.size ≤ q
theorem oldA_no (s : State) : ∀ a : Nat, a < s.heap.size → ¬ oldA s a := fun _ h q => absurd h (Nat.not_lt.mpr q)
section START
variable {b : Addr} {s : State}
/-- a static row -/
theorem st_row (C n : String) (f : List Int32) (hN : f.length < 2 ^ 31) (hts : ∀ w ∈ lw_tbl, w.before #[Value.ref b] s = true) (hg : ∀ w ∈ gvL, w.before #[Value.ref b] s = true) (hl : Cond.laysStatic C n "[I" ∈ lw_tbl) (hi : Cond.initialized C ∈ lw_tbl)
    (h1 : Cond.arrayOf (.static C n "[I") .int ∈ gvL) (h2 : Cond.eq (.length (.static C n "[I")) (.int (Int32.ofNat f.length)) ∈ gvL) (h3 : ∀ j ∈ List.range f.length, Cond.eq (.elem (.static C n "[I") (.int (Int32.ofNat j))) (.int ((f[j]?).getD 0)) ∈ gvL) :
    ∃ t : Nat, va_Z C n "[I" (.ref t) (oldA s) s s.heap ∧ va_T .int t f.length (fun j => .int ((f[j]?).getD 0)) (oldA s) s s.heap := by
  obtain ⟨t, e, hT⟩ := va_Tof (f := fun j => .int ((f[j]?).getD 0)) (A := oldA s) hN (hg _ h1) (va_eqt (hg _ h2)) (fun j hj => va_eqt (hg _ (h3 j (List.mem_range.mpr hj)))) (oldA_no s)
  exact ⟨t, va_Zref (hts _ hl) (hts _ hi) e (oldA_no s), hT⟩
theorem st_msg (own : String) (k : Nat) (tx : String) (hts : ∀ w ∈ lw_tbl, w.before #[Value.ref b] s = true) (hg : ∀ w ∈ gvL, w.before #[Value.ref b] s = true) (hr : Cond.stringRef own k tx ∈ lw_tbl) (hex : Cond.exactly (.string own k) "java/lang/String" ∈ gvL) :
    ∃ a : Nat, vk_R own k tx a s ∧ va_O "java/lang/String" a (oldA s) s s.heap ∧ (Term.string own k).eval #[Value.ref b] s none [] s = some (.ref a) := by
  obtain ⟨a, c, cA, kA, q1, -⟩ := Cond.exactly_spec (args := #[Value.ref b]) (first := s) (o := none) (s := s) (idx := []) (hg _ hex)
  exact ⟨a, vk_R.of (hts _ hr) q1, va_Oof (hg _ hex) q1 (oldA_no s), q1⟩
theorem st_str (own : String) (k : Nat) (tx : String) (f : List Int) (hN : f.length < 2 ^ 31) (hts : ∀ w ∈ lw_tbl, w.before #[Value.ref b] s = true) (hg : ∀ w ∈ gvL, w.before #[Value.ref b] s = true) (hr : Cond.stringRef own k tx ∈ lw_tbl) (hex : Cond.exactly (.string own k) "java/lang/String" ∈ gvL)
    (hco : Cond.eq (.field (.string own k) "java/lang/String" "coder" "B") (.int 0) ∈ gvL) (har : Cond.arrayOf (.field (.string own k) "java/lang/String" "value" "[B") .byte ∈ gvL) (hle : Cond.eq (.length (.field (.string own k) "java/lang/String" "value" "[B")) (.int (Int32.ofNat f.length)) ∈ gvL)
    (hel : ∀ j ∈ List.range f.length, Cond.eq (.elem (.field (.string own k) "java/lang/String" "value" "[B") (.int (Int32.ofNat j))) (.int (Int32.ofInt ((f[j]?).getD 0))) ∈ gvL) :
    ∃ a t : Nat, vk_R own k tx a s ∧ va_O "java/lang/String" a (oldA s) s s.heap ∧ va_OF "java/lang/String" "coder" "B" (.int 0) a (oldA s) s s.heap ∧ va_OF "java/lang/String" "value" "[B" (.ref t) a (oldA s) s s.heap ∧ va_T .byte t f.length (fun j => .int (Int32.ofInt ((f[j]?).getD 0))) (oldA s) s s.heap := by
  obtain ⟨a, h1, h2, h3⟩ := st_msg own k tx hts hg hr hex
  obtain ⟨t, e, hT⟩ := va_Tof (f := fun j => .int (Int32.ofInt ((f[j]?).getD 0))) (A := oldA s) hN (hg _ har) (va_eqt (hg _ hle)) (fun j hj => va_eqt (hg _ (hel j (List.mem_range.mpr hj)))) (oldA_no s)
  exact ⟨a, t, h1, h2, vk_OFof h3 (va_eqt (hg _ hco)) (oldA_no s), vk_OFof h3 e (oldA_no s), hT⟩
theorem st_r0 (hts : ∀ w ∈ lw_tbl, w.before #[Value.ref b] s = true) (hg : ∀ w ∈ gvL, w.before #[Value.ref b] s = true) : ∃ t : Nat, va_Z "HexArbiter$Grid" "STEP_ROWS" "[I" (.ref t) (oldA s) s s.heap ∧ va_T .int t ([-1, -1, 0, 0, 1, 1] : List Int32).length (fun j => .int ((([-1, -1, 0, 0, 1, 1] : List Int32)[j]?).getD 0)) (oldA s) s s.heap := st_row "HexArbiter$Grid" "STEP_ROWS" [-1, -1, 0, 0, 1, 1] (by decide) hts hg (in_tb (List.mem_of_getElem? (i := 349) (by decide +kernel))) (in_tb (List.mem_of_getElem? (i := 2) (by decide +kernel))) (by decide +kernel) (by decide +kernel) (by decide +kernel)
theorem st_r1 (hts : ∀ w ∈ lw_tbl, w.before #[Value.ref b] s = true) (hg : ∀ w ∈ gvL, w.before #[Value.ref b] s = true) : ∃ t : Nat, va_Z "HexArbiter$Grid" "STEP_COLUMNS" "[I" (.ref t) (oldA s) s s.heap ∧ va_T .int t ([0, 1, -1, 1, -1, 0] : List Int32).length (fun j => .int ((([0, 1, -1, 1, -1, 0] : List Int32)[j]?).getD 0)) (oldA s) s s.heap := st_row "HexArbiter$Grid" "STEP_COLUMNS" [0, 1, -1, 1, -1, 0] (by decide) hts hg (in_tb (List.mem_of_getElem? (i := 354) (by decide +kernel))) (in_tb (List.mem_of_getElem? (i := 2) (by decide +kernel))) (by decide +kernel) (by decide +kernel) (by decide +kernel)
theorem st_r2 (hts : ∀ w ∈ lw_tbl, w.before #[Value.ref b] s = true) (hg : ∀ w ∈ gvL, w.before #[Value.ref b] s = true) : ∃ t : Nat, va_Z "HexArbiter$BridgeList" "FAR_ROWS" "[I" (.ref t) (oldA s) s s.heap ∧ va_T .int t ([1, 1, 2] : List Int32).length (fun j => .int ((([1, 1, 2] : List Int32)[j]?).getD 0)) (oldA s) s s.heap := st_row "HexArbiter$BridgeList" "FAR_ROWS" [1, 1, 2] (by decide) hts hg (in_tb (List.mem_of_getElem? (i := 1056) (by decide +kernel))) (in_tb (List.mem_of_getElem? (i := 9) (by decide +kernel))) (by decide +kernel) (by decide +kernel) (by decide +kernel)
theorem st_r3 (hts : ∀ w ∈ lw_tbl, w.before #[Value.ref b] s = true) (hg : ∀ w ∈ gvL, w.before #[Value.ref b] s = true) : ∃ t : Nat, va_Z "HexArbiter$BridgeList" "FAR_COLUMNS" "[I" (.ref t) (oldA s) s s.heap ∧ va_T .int t ([-2, 1, -1] : List Int32).length (fun j => .int ((([-2, 1, -1] : List Int32)[j]?).getD 0)) (oldA s) s s.heap := st_row "HexArbiter$BridgeList" "FAR_COLUMNS" [-2, 1, -1] (by decide) hts hg (in_tb (List.mem_of_getElem? (i := 1064) (by decide +kernel))) (in_tb (List.mem_of_getElem? (i := 9) (by decide +kernel))) (by decide +kernel) (by decide +kernel) (by decide +kernel)
theorem st_r4 (hts : ∀ w ∈ lw_tbl, w.before #[Value.ref b] s = true) (hg : ∀ w ∈ gvL, w.before #[Value.ref b] s = true) : ∃ t : Nat, va_Z "HexArbiter$BridgeList" "LOW_ROWS" "[I" (.ref t) (oldA s) s s.heap ∧ va_T .int t ([0, 0, 1] : List Int32).length (fun j => .int ((([0, 0, 1] : List Int32)[j]?).getD 0)) (oldA s) s s.heap := st_row "HexArbiter$BridgeList" "LOW_ROWS" [0, 0, 1] (by decide) hts hg (in_tb (List.mem_of_getElem? (i := 1067) (by decide +kernel))) (in_tb (List.mem_of_getElem? (i := 9) (by decide +kernel))) (by decide +kernel) (by decide +kernel) (by decide +kernel)
theorem st_r5 (hts : ∀ w ∈ lw_tbl, w.before #[Value.ref b] s = true) (hg : ∀ w ∈ gvL, w.before #[Value.ref b] s = true) : ∃ t : Nat, va_Z "HexArbiter$BridgeList" "LOW_COLUMNS" "[I" (.ref t) (oldA s) s s.heap ∧ va_T .int t ([-1, 1, -1] : List Int32).length (fun j => .int ((([-1, 1, -1] : List Int32)[j]?).getD 0)) (oldA s) s s.heap := st_row "HexArbiter$BridgeList" "LOW_COLUMNS" [-1, 1, -1] (by decide) hts hg (in_tb (List.mem_of_getElem? (i := 1069) (by decide +kernel))) (in_tb (List.mem_of_getElem? (i := 9) (by decide +kernel))) (by decide +kernel) (by decide +kernel) (by decide +kernel)
theorem st_r6 (hts : ∀ w ∈ lw_tbl, w.before #[Value.ref b] s = true) (hg : ∀ w ∈ gvL, w.before #[Value.ref b] s = true) : ∃ t : Nat, va_Z "HexArbiter$BridgeList" "HIGH_ROWS" "[I" (.ref t) (oldA s) s s.heap ∧ va_T .int t ([1, 1, 1] : List Int32).length (fun j => .int ((([1, 1, 1] : List Int32)[j]?).getD 0)) (oldA s) s s.heap := st_row "HexArbiter$BridgeList" "HIGH_ROWS" [1, 1, 1] (by decide) hts hg (in_tb (List.mem_of_getElem? (i := 1071) (by decide +kernel))) (in_tb (List.mem_of_getElem? (i := 9) (by decide +kernel))) (by decide +kernel) (by decide +kernel) (by decide +kernel)
theorem st_r7 (hts : ∀ w ∈ lw_tbl, w.before #[Value.ref b] s = true) (hg : ∀ w ∈ gvL, w.before #[Value.ref b] s = true) : ∃ t : Nat, va_Z "HexArbiter$BridgeList" "HIGH_COLUMNS" "[I" (.ref t) (oldA s) s s.heap ∧ va_T .int t ([-1, 0, 0] : List Int32).length (fun j => .int ((([-1, 0, 0] : List Int32)[j]?).getD 0)) (oldA s) s s.heap := st_row "HexArbiter$BridgeList" "HIGH_COLUMNS" [-1, 0, 0] (by decide) hts hg (in_tb (List.mem_of_getElem? (i := 1073) (by decide +kernel))) (in_tb (List.mem_of_getElem? (i := 9) (by decide +kernel))) (by decide +kernel) (by decide +kernel) (by decide +kernel)
theorem st_s2000 (hts : ∀ w ∈ lw_tbl, w.before #[Value.ref b] s = true) (hg : ∀ w ∈ gvL, w.before #[Value.ref b] s = true) : ∃ a t : Nat, vk_R "HexArbiter$Reader" 59 "board" a s ∧ va_O "java/lang/String" a (oldA s) s s.heap ∧ va_OF "java/lang/String" "coder" "B" (.int 0) a (oldA s) s s.heap ∧ va_OF "java/lang/String" "value" "[B" (.ref t) a (oldA s) s s.heap ∧ va_T .byte t ([98, 111, 97, 114, 100] : List Int).length (fun j => .int (Int32.ofInt ((([98, 111, 97, 114, 100] : List Int)[j]?).getD 0))) (oldA s) s s.heap := st_str "HexArbiter$Reader" 59 "board" [98, 111, 97, 114, 100] (by decide) hts hg (in_tb (List.mem_of_getElem? (i := 752) (by decide +kernel))) (by decide +kernel) (by decide +kernel) (by decide +kernel) (by decide +kernel) (by decide +kernel)
theorem st_s2001 (hts : ∀ w ∈ lw_tbl, w.before #[Value.ref b] s = true) (hg : ∀ w ∈ gvL, w.before #[Value.ref b] s = true) : ∃ a t : Nat, vk_R "HexArbiter$Reader" 77 "swap" a s ∧ va_O "java/lang/String" a (oldA s) s s.heap ∧ va_OF "java/lang/String" "coder" "B" (.int 0) a (oldA s) s s.heap ∧ va_OF "java/lang/String" "value" "[B" (.ref t) a (oldA s) s s.heap ∧ va_T .byte t ([115, 119, 97, 112] : List Int).length (fun j => .int (Int32.ofInt ((([115, 119, 97, 112] : List Int)[j]?).getD 0))) (oldA s) s s.heap := st_str "HexArbiter$Reader" 77 "swap" [115, 119, 97, 112] (by decide) hts hg (in_tb (List.mem_of_getElem? (i := 765) (by decide +kernel))) (by decide +kernel) (by decide +kernel) (by decide +kernel) (by decide +kernel) (by decide +kernel)
theorem st_s2002 (hts : ∀ w ∈ lw_tbl, w.before #[Value.ref b] s = true) (hg : ∀ w ∈ gvL, w.before #[Value.ref b] s = true) : ∃ a t : Nat, vk_R "HexArbiter$Reader" 83 "move" a s ∧ va_O "java/lang/String" a (oldA s) s s.heap ∧ va_OF "java/lang/String" "coder" "B" (.int 0) a (oldA s) s s.heap ∧ va_OF "java/lang/String" "value" "[B" (.ref t) a (oldA s) s s.heap ∧ va_T .byte t ([109, 111, 118, 101] : List Int).length (fun j => .int (Int32.ofInt ((([109, 111, 118, 101] : List Int)[j]?).getD 0))) (oldA s) s s.heap := st_str "HexArbiter$Reader" 83 "move" [109, 111, 118, 101] (by decide) hts hg (in_tb (List.mem_of_getElem? (i := 770) (by decide +kernel))) (by decide +kernel) (by decide +kernel) (by decide +kernel) (by decide +kernel) (by decide +kernel)
theorem st_s2003 (hts : ∀ w ∈ lw_tbl, w.before #[Value.ref b] s = true) (hg : ∀ w ∈ gvL, w.before #[Value.ref b] s = true) : ∃ a t : Nat, vk_R "HexArbiter$Reader" 85 "turn" a s ∧ va_O "java/lang/String" a (oldA s) s s.heap ∧ va_OF "java/lang/String" "coder" "B" (.int 0) a (oldA s) s s.heap ∧ va_OF "java/lang/String" "value" "[B" (.ref t) a (oldA s) s s.heap ∧ va_T .byte t ([116, 117, 114, 110] : List Int).length (fun j => .int (Int32.ofInt ((([116, 117, 114, 110] : List Int)[j]?).getD 0))) (oldA s) s s.heap := st_str "HexArbiter$Reader" 85 "turn" [116, 117, 114, 110] (by decide) hts hg (in_tb (List.mem_of_getElem? (i := 771) (by decide +kernel))) (by decide +kernel) (by decide +kernel) (by decide +kernel) (by decide +kernel) (by decide +kernel)
theorem st_s2004 (hts : ∀ w ∈ lw_tbl, w.before #[Value.ref b] s = true) (hg : ∀ w ∈ gvL, w.before #[Value.ref b] s = true) : ∃ a t : Nat, vk_R "HexArbiter$Reader" 135 "red" a s ∧ va_O "java/lang/String" a (oldA s) s s.heap ∧ va_OF "java/lang/String" "coder" "B" (.int 0) a (oldA s) s s.heap ∧ va_OF "java/lang/String" "value" "[B" (.ref t) a (oldA s) s s.heap ∧ va_T .byte t ([114, 101, 100] : List Int).length (fun j => .int (Int32.ofInt ((([114, 101, 100] : List Int)[j]?).getD 0))) (oldA s) s s.heap := st_str "HexArbiter$Reader" 135 "red" [114, 101, 100] (by decide) hts hg (in_tb (List.mem_of_getElem? (i := 776) (by decide +kernel))) (by decide +kernel) (by decide +kernel) (by decide +kernel) (by decide +kernel) (by decide +kernel)
theorem st_s2005 (hts : ∀ w ∈ lw_tbl, w.before #[Value.ref b] s = true) (hg : ∀ w ∈ gvL, w.before #[Value.ref b] s = true) : ∃ a t : Nat, vk_R "HexArbiter$Reader" 137 "blue" a s ∧ va_O "java/lang/String" a (oldA s) s s.heap ∧ va_OF "java/lang/String" "coder" "B" (.int 0) a (oldA s) s s.heap ∧ va_OF "java/lang/String" "value" "[B" (.ref t) a (oldA s) s s.heap ∧ va_T .byte t ([98, 108, 117, 101] : List Int).length (fun j => .int (Int32.ofInt ((([98, 108, 117, 101] : List Int)[j]?).getD 0))) (oldA s) s s.heap := st_str "HexArbiter$Reader" 137 "blue" [98, 108, 117, 101] (by decide) hts hg (in_tb (List.mem_of_getElem? (i := 777) (by decide +kernel))) (by decide +kernel) (by decide +kernel) (by decide +kernel) (by decide +kernel) (by decide +kernel)
theorem st_s2020 (hts : ∀ w ∈ lw_tbl, w.before #[Value.ref b] s = true) (hg : ∀ w ∈ gvL, w.before #[Value.ref b] s = true) : ∃ a t : Nat, vk_R "HexArbiterLaw" 41 "board " a s ∧ va_O "java/lang/String" a (oldA s) s s.heap ∧ va_OF "java/lang/String" "coder" "B" (.int 0) a (oldA s) s s.heap ∧ va_OF "java/lang/String" "value" "[B" (.ref t) a (oldA s) s s.heap ∧ va_T .byte t ([98, 111, 97, 114, 100, 32] : List Int).length (fun j => .int (Int32.ofInt ((([98, 111, 97, 114, 100, 32] : List Int)[j]?).getD 0))) (oldA s) s s.heap := st_str "HexArbiterLaw" 41 "board " [98, 111, 97, 114, 100, 32] (by decide) hts hg (in_tb (List.mem_of_getElem? (i := 425) (by decide +kernel))) (by decide +kernel) (by decide +kernel) (by decide +kernel) (by decide +kernel) (by decide +kernel)
theorem st_s2021 (hts : ∀ w ∈ lw_tbl, w.before #[Value.ref b] s = true) (hg : ∀ w ∈ gvL, w.before #[Value.ref b] s = true) : ∃ a t : Nat, vk_R "HexArbiterLaw" 49 " swap" a s ∧ va_O "java/lang/String" a (oldA s) s s.heap ∧ va_OF "java/lang/String" "coder" "B" (.int 0) a (oldA s) s s.heap ∧ va_OF "java/lang/String" "value" "[B" (.ref t) a (oldA s) s s.heap ∧ va_T .byte t ([32, 115, 119, 97, 112] : List Int).length (fun j => .int (Int32.ofInt ((([32, 115, 119, 97, 112] : List Int)[j]?).getD 0))) (oldA s) s s.heap := st_str "HexArbiterLaw" 49 " swap" [32, 115, 119, 97, 112] (by decide) hts hg (in_tb (List.mem_of_getElem? (i := 606) (by decide +kernel))) (by decide +kernel) (by decide +kernel) (by decide +kernel) (by decide +kernel) (by decide +kernel)
theorem st_s2022 (hts : ∀ w ∈ lw_tbl, w.before #[Value.ref b] s = true) (hg : ∀ w ∈ gvL, w.before #[Value.ref b] s = true) : ∃ a t : Nat, vk_R "HexArbiterLaw" 51 "" a s ∧ va_O "java/lang/String" a (oldA s) s s.heap ∧ va_OF "java/lang/String" "coder" "B" (.int 0) a (oldA s) s s.heap ∧ va_OF "java/lang/String" "value" "[B" (.ref t) a (oldA s) s s.heap ∧ va_T .byte t ([] : List Int).length (fun j => .int (Int32.ofInt ((([] : List Int)[j]?).getD 0))) (oldA s) s s.heap := st_str "HexArbiterLaw" 51 "" [] (by decide) hts hg (in_tb (List.mem_of_getElem? (i := 607) (by decide +kernel))) (by decide +kernel) (by decide +kernel) (by decide +kernel) (by decide +kernel) (by decide +kernel)
theorem st_s2023 (hts : ∀ w ∈ lw_tbl, w.before #[Value.ref b] s = true) (hg : ∀ w ∈ gvL, w.before #[Value.ref b] s = true) : ∃ a t : Nat, vk_R "HexArbiterLaw" 56 ";red" a s ∧ va_O "java/lang/String" a (oldA s) s s.heap ∧ va_OF "java/lang/String" "coder" "B" (.int 0) a (oldA s) s s.heap ∧ va_OF "java/lang/String" "value" "[B" (.ref t) a (oldA s) s s.heap ∧ va_T .byte t ([59, 114, 101, 100] : List Int).length (fun j => .int (Int32.ofInt ((([59, 114, 101, 100] : List Int)[j]?).getD 0))) (oldA s) s s.heap := st_str "HexArbiterLaw" 56 ";red" [59, 114, 101, 100] (by decide) hts hg (in_tb (List.mem_of_getElem? (i := 609) (by decide +kernel))) (by decide +kernel) (by decide +kernel) (by decide +kernel) (by decide +kernel) (by decide +kernel)
theorem st_s2024 (hts : ∀ w ∈ lw_tbl, w.before #[Value.ref b] s = true) (hg : ∀ w ∈ gvL, w.before #[Value.ref b] s = true) : ∃ a t : Nat, vk_R "HexArbiterLaw" 58 ";blue" a s ∧ va_O "java/lang/String" a (oldA s) s s.heap ∧ va_OF "java/lang/String" "coder" "B" (.int 0) a (oldA s) s s.heap ∧ va_OF "java/lang/String" "value" "[B" (.ref t) a (oldA s) s s.heap ∧ va_T .byte t ([59, 98, 108, 117, 101] : List Int).length (fun j => .int (Int32.ofInt ((([59, 98, 108, 117, 101] : List Int)[j]?).getD 0))) (oldA s) s s.heap := st_str "HexArbiterLaw" 58 ";blue" [59, 98, 108, 117, 101] (by decide) hts hg (in_tb (List.mem_of_getElem? (i := 610) (by decide +kernel))) (by decide +kernel) (by decide +kernel) (by decide +kernel) (by decide +kernel) (by decide +kernel)
theorem st_s2025 (hts : ∀ w ∈ lw_tbl, w.before #[Value.ref b] s = true) (hg : ∀ w ∈ gvL, w.before #[Value.ref b] s = true) : ∃ a t : Nat, vk_R "HexArbiterLaw" 63 ";turn red" a s ∧ va_O "java/lang/String" a (oldA s) s s.heap ∧ va_OF "java/lang/String" "coder" "B" (.int 0) a (oldA s) s s.heap ∧ va_OF "java/lang/String" "value" "[B" (.ref t) a (oldA s) s s.heap ∧ va_T .byte t ([59, 116, 117, 114, 110, 32, 114, 101, 100] : List Int).length (fun j => .int (Int32.ofInt ((([59, 116, 117, 114, 110, 32, 114, 101, 100] : List Int)[j]?).getD 0))) (oldA s) s s.heap := st_str "HexArbiterLaw" 63 ";turn red" [59, 116, 117, 114, 110, 32, 114, 101, 100] (by decide) hts hg (in_tb (List.mem_of_getElem? (i := 633) (by decide +kernel))) (by decide +kernel) (by decide +kernel) (by decide +kernel) (by decide +kernel) (by decide +kernel)
theorem st_s2026 (hts : ∀ w ∈ lw_tbl, w.before #[Value.ref b] s = true) (hg : ∀ w ∈ gvL, w.before #[Value.ref b] s = true) : ∃ a t : Nat, vk_R "HexArbiterLaw" 65 ";turn blue" a s ∧ va_O "java/lang/String" a (oldA s) s s.heap ∧ va_OF "java/lang/String" "coder" "B" (.int 0) a (oldA s) s s.heap ∧ va_OF "java/lang/String" "value" "[B" (.ref t) a (oldA s) s s.heap ∧ va_T .byte t ([59, 116, 117, 114, 110, 32, 98, 108, 117, 101] : List Int).length (fun j => .int (Int32.ofInt ((([59, 116, 117, 114, 110, 32, 98, 108, 117, 101] : List Int)[j]?).getD 0))) (oldA s) s s.heap := st_str "HexArbiterLaw" 65 ";turn blue" [59, 116, 117, 114, 110, 32, 98, 108, 117, 101] (by decide) hts hg (in_tb (List.mem_of_getElem? (i := 634) (by decide +kernel))) (by decide +kernel) (by decide +kernel) (by decide +kernel) (by decide +kernel) (by decide +kernel)
theorem st_do (hts : ∀ w ∈ lw_tbl, w.before #[Value.ref b] s = true) (hg : ∀ w ∈ gvL, w.before #[Value.ref b] s = true) : ∃ t : Nat, va_Z "java/lang/Integer" "DigitOnes" "[B" (.ref t) (oldA s) s s.heap ∧ va_T .byte t 100 (fun j => .int (Int32.ofInt (48 + (j % 10 : Nat)))) (oldA s) s s.heap := by
  have h1 : Cond.arrayOf (.static "java/lang/Integer" "DigitOnes" "[B") .byte ∈ gvL := by decide +kernel
  have h2 : Cond.eq (.length (.static "java/lang/Integer" "DigitOnes" "[B")) (.int (Int32.ofNat 100)) ∈ gvL := by decide +kernel
  have h3 : ∀ j ∈ List.range 100, Cond.eq (.elem (.static "java/lang/Integer" "DigitOnes" "[B") (.int (Int32.ofNat j))) (.int (Int32.ofInt (48 + (j % 10 : Nat)))) ∈ gvL := by decide +kernel
  obtain ⟨t, e, hT⟩ := va_Tof (ty := .byte) (N := 100) (f := fun j => .int (Int32.ofInt (48 + (j % 10 : Nat)))) (A := oldA s) (by decide) (hg _ h1) (va_eqt (hg _ h2)) (fun j hj => va_eqt (hg _ (h3 j (List.mem_range.mpr hj)))) (oldA_no s)
  exact ⟨t, va_Zref (hts _ (in_tb (List.mem_of_getElem? (i := 595) (by decide +kernel)))) (hts _ (in_tb (List.mem_of_getElem? (i := 23) (by decide +kernel)))) e (oldA_no s), hT⟩
/-- a private method of a superclass, selected for its subclass -/
theorem sel_sub {y x : MethodName} {D : String} {args : Array Value} (hy : y.cls ≠ "java/lang/invoke/MethodHandle" ∧ y.cls ≠ "java/lang/invoke/VarHandle") (hD : (Cond.selects D x x).before args s = true) (hxy : x.cls = y.cls) (hpriv : (Cond.privateMethod y).before args s = true) (hinst : (Cond.instanceMethod y).before args s = true) : (Cond.selects D y y).before args s = true := by
  obtain ⟨c, r, m, hc, hr, hm, hsel, kM, hkM, hni⟩ := Cond.selects_spec hD
  obtain ⟨mk, methM, hnamed, hmethM, -, -⟩ := Cond.instanceMethod_spec hinst
  have hfound : s.methodFound? y.cls y.name y.desc = some mk := State.methodFound?_of_named hnamed hy
  have hcls : mk.cls = m.cls := by
    have h1 := findClass_of_methodNamed hm
    have h2 := findClass_of_methodNamed hnamed
    rw [hxy] at h1
    exact Option.some.inj (h2.symm.trans h1)
  have hsel2 : selectMethod {} s.vm c mk = .method mk := selectMethod_private hmethM (Cond.privateMethod_at hpriv mk methM hnamed hmethM)
  simp only [Cond.before, Cond.holds, Cond.value, hc, hfound, hnamed, hsel2, hcls, hkM]
  simp
  exact hni
theorem lw_all_hold (hts : ∀ w ∈ lw_tbl, w.before #[Value.ref b] s = true) : ∀ w ∈ lw_all, w.before #[Value.ref b] s = true := by
  intro w hw
  rcases List.mem_append.mp (List.mem_filter.mp hw).1 with h | h
  · obtain ⟨y, hy, rfl⟩ := List.mem_map.mp h
    have hD : (Cond.selects "java/lang/StringBuilder" ⟨"java/lang/AbstractStringBuilder", "isLatin1", "()Z"⟩ ⟨"java/lang/AbstractStringBuilder", "isLatin1", "()Z"⟩).before #[Value.ref b] s = true := hts _ (in_tb (List.mem_of_getElem? (i := 505) (by decide +kernel)))
    have hall : ∀ y ∈ asbL, y.cls = "java/lang/AbstractStringBuilder" ∧ Cond.privateMethod y ∈ tables_1 ∧ Cond.instanceMethod y ∈ tables_1 := by decide +kernel
    obtain ⟨h1, h2, h3⟩ := hall y hy
    exact sel_sub ⟨by rw [h1]; decide, by rw [h1]; decide⟩ hD h1.symm (hts _ (in_tb h2)) (hts _ (in_tb h3))
  · exact hts w h
end START
def rowV : List (List Int32) := [[-1, -1, 0, 0, 1, 1], [0, 1, -1, 1, -1, 0], [1, 1, 2], [-2, 1, -1], [0, 0, 1], [-1, 1, -1], [1, 1, 1], [-1, 0, 0]]
def oldV (L : Nat) (xs : Nat → Int32) (z : Int32) (i j : Nat) : Int32 := if i = 1200 then (if j < L then xs j else 0) else if i = 1201 then Int32.ofInt (L : Int) else if i = 1900 then z else if 1000 ≤ i then ((((rowV[i - 1000]?).getD [])[j]?).getD 0) else 0
theorem st_kn {s : State} {args : Array Value} (hts : ∀ w ∈ lw_tbl, w.before args s = true) (c : Nat) (n : Nat) (hin : ∀ w ∈ u_ws (cR c) (cT c) (cn c), w ∈ lw_tbl) (hi : Cond.instantiable (cR c) n ∈ lw_tbl) : ∃ (cC : ClassId) (iS : Nat → Nat), u_Kn s (cR c) (cT c) (cn c) cC iS := u_known hts hin (hts _ hi)
set_option maxRecDepth 100000 in
theorem st_all {b : Addr} {s : State} {L : Nat} {xs : Nat → Int32} (hts : ∀ w ∈ lw_tbl, w.before #[Value.ref b] s = true) (hg : ∀ w ∈ gvL, w.before #[Value.ref b] s = true) (hX : va_X b L xs s s.heap) (hbl : b < s.heap.size) (hL9 : L ≤ 260) :
    ∃ (z : Int32), ∀ E : List Shp, ∃ C : Cx, xB C = s.heap.size ∧ xO C 1200 = b ∧ xL C = L ∧ xV C = oldV L xs z ∧ xE C = E ∧ St C s s.heap := by
  obtain ⟨c0, i0, k0⟩ := st_kn hts 0 8 inws0 (in_tb (List.mem_of_getElem? (i := 212) (by decide +kernel)))
  obtain ⟨c1, i1, k1⟩ := st_kn hts 1 2 inws1 (in_tb (List.mem_of_getElem? (i := 150) (by decide +kernel)))
  obtain ⟨c2, i2, k2⟩ := st_kn hts 2 6 inws2 (in_tb (List.mem_of_getElem? (i := 282) (by decide +kernel)))
  obtain ⟨c3, i3, k3⟩ := st_kn hts 3 4 inws3 (in_tb (List.mem_of_getElem? (i := 307) (by decide +kernel)))
  obtain ⟨c4, i4, k4⟩ := st_kn hts 4 4 inws4 (in_tb (List.mem_of_getElem? (i := 263) (by decide +kernel)))
  obtain ⟨c5, i5, k5⟩ := st_kn hts 5 5 inws5 (in_tb (List.mem_of_getElem? (i := 38) (by decide +kernel)))
  obtain ⟨c6, i6, k6⟩ := st_kn hts 6 3 inws6 (in_tb (List.mem_of_getElem? (i := 130) (by decide +kernel)))
  obtain ⟨c7, i7, k7⟩ := st_kn hts 7 6 inws7 (in_tb (List.mem_of_getElem? (i := 68) (by decide +kernel)))
  obtain ⟨c8, i8, k8⟩ := st_kn hts 8 4 inws8 (in_tb (List.mem_of_getElem? (i := 244) (by decide +kernel)))
  obtain ⟨c9, i9, k9⟩ := st_kn hts 9 7 inws9 (in_tb (List.mem_of_getElem? (i := 93) (by decide +kernel)))
  obtain ⟨c10, i10, k10⟩ := st_kn hts 10 11 inws10 (in_tb (List.mem_of_getElem? (i := 168) (by decide +kernel)))
  obtain ⟨c11, i11, k11⟩ := st_kn hts 11 16 inws11 (in_tb (List.mem_of_getElem? (i := 30) (by decide +kernel)))
  obtain ⟨c12, i12, k12⟩ := st_kn hts 12 4 inws12 (in_tb (List.mem_of_getElem? (i := 640) (by decide +kernel)))
  obtain ⟨c13, i13, k13⟩ := st_kn hts 13 4 inws13 (in_tb (List.mem_of_getElem? (i := 424) (by decide +kernel)))
  obtain ⟨a0, ha0⟩ := st_arr (atype := .int) (hts _ (in_tb (List.mem_of_getElem? (i := 66) (by decide +kernel))))
  obtain ⟨a1, ha1⟩ := st_arr (atype := .boolean) (hts _ (in_tb (List.mem_of_getElem? (i := 579) (by decide +kernel))))
  obtain ⟨a2, ha2⟩ := st_arr (atype := .byte) (hts _ (in_tb (List.mem_of_getElem? (i := 580) (by decide +kernel))))
  obtain ⟨a3, ha3⟩ := st_arrq (C := "HexArbiter$Position") (hts _ (in_tb (List.mem_of_getElem? (i := 136) (by decide +kernel))))
  obtain ⟨r0, z0, t0⟩ := st_r0 hts hg
  obtain ⟨r1, z1, t1⟩ := st_r1 hts hg
  obtain ⟨r2, z2, t2⟩ := st_r2 hts hg
  obtain ⟨r3, z3, t3⟩ := st_r3 hts hg
  obtain ⟨r4, z4, t4⟩ := st_r4 hts hg
  obtain ⟨r5, z5, t5⟩ := st_r5 hts hg
  obtain ⟨r6, z6, t6⟩ := st_r6 hts hg
  obtain ⟨r7, z7, t7⟩ := st_r7 hts hg
  obtain ⟨dO, zdO, tdO⟩ := st_do hts hg
  obtain ⟨s2000, v2000, e2000, o2000, f2000, g2000, q2000⟩ := st_s2000 hts hg
  obtain ⟨s2001, v2001, e2001, o2001, f2001, g2001, q2001⟩ := st_s2001 hts hg
  obtain ⟨s2002, v2002, e2002, o2002, f2002, g2002, q2002⟩ := st_s2002 hts hg
  obtain ⟨s2003, v2003, e2003, o2003, f2003, g2003, q2003⟩ := st_s2003 hts hg
  obtain ⟨s2004, v2004, e2004, o2004, f2004, g2004, q2004⟩ := st_s2004 hts hg
  obtain ⟨s2005, v2005, e2005, o2005, f2005, g2005, q2005⟩ := st_s2005 hts hg
  obtain ⟨s2020, v2020, e2020, o2020, f2020, g2020, q2020⟩ := st_s2020 hts hg
  obtain ⟨s2021, v2021, e2021, o2021, f2021, g2021, q2021⟩ := st_s2021 hts hg
  obtain ⟨s2022, v2022, e2022, o2022, f2022, g2022, q2022⟩ := st_s2022 hts hg
  obtain ⟨s2023, v2023, e2023, o2023, f2023, g2023, q2023⟩ := st_s2023 hts hg
  obtain ⟨s2024, v2024, e2024, o2024, f2024, g2024, q2024⟩ := st_s2024 hts hg
  obtain ⟨s2025, v2025, e2025, o2025, f2025, g2025, q2025⟩ := st_s2025 hts hg
  obtain ⟨s2026, v2026, e2026, o2026, f2026, g2026, q2026⟩ := st_s2026 hts hg
  have hpre : ∃ (z : Int32) (y : Nat), va_Z "jdk/internal/util/Preconditions" "SIOOBE_FORMATTER" "Ljava/util/function/BiFunction;" (if z = 0 then .null else .ref y) (oldA s) s s.heap := by
    rcases va_Zqof (A := oldA s) (hts _ (in_tb (List.mem_of_getElem? (i := 521) (by decide +kernel)))) (hts _ (in_tb (List.mem_of_getElem? (i := 21) (by decide +kernel)))) (hg (.isRef (.static "jdk/internal/util/Preconditions" "SIOOBE_FORMATTER" "Ljava/util/function/BiFunction;")) (by decide +kernel)) (oldA_no s) with h | ⟨y, h⟩
    · exact ⟨0, 0, by rw [if_pos rfl]; exact h⟩
    · exact ⟨1, y, by rw [if_neg (by decide)]; exact h⟩
  obtain ⟨z, y19, hz19⟩ := hpre
  refine ⟨z, fun E => ?_⟩
  let C : Cx := ((fun k => match k with | 0 => c0 | 1 => c1 | 2 => c2 | 3 => c3 | 4 => c4 | 5 => c5 | 6 => c6 | 7 => c7 | 8 => c8 | 9 => c9 | 10 => c10 | 11 => c11 | 12 => c12 | _ => c13, fun k => match k with | 0 => i0 | 1 => i1 | 2 => i2 | 3 => i3 | 4 => i4 | 5 => i5 | 6 => i6 | 7 => i7 | 8 => i8 | 9 => i9 | 10 => i10 | 11 => i11 | 12 => i12 | _ => i13), fun ty => match ty with | .int => a0 | .boolean => a1 | .byte => a2 | _ => a3, s.heap.size, fun i => match i with | 1000 => r0 | 1001 => r1 | 1002 => r2 | 1003 => r3 | 1004 => r4 | 1005 => r5 | 1006 => r6 | 1007 => r7 | 1200 => b | 1900 => y19 | 1901 => dO | 2000 => s2000 | 2001 => s2001 | 2002 => s2002 | 2003 => s2003 | 2004 => s2004 | 2005 => s2005 | 2020 => s2020 | 2021 => s2021 | 2022 => s2022 | 2023 => s2023 | 2024 => s2024 | 2025 => s2025 | 2026 => s2026 | 2100 => v2000 | 2101 => v2001 | 2102 => v2002 | 2103 => v2003 | 2104 => v2004 | 2105 => v2005 | 2120 => v2020 | 2121 => v2021 | 2122 => v2022 | 2123 => v2023 | 2124 => v2024 | 2125 => v2025 | 2126 => v2026 | _ => 0, L, oldV L xs z, E)
  have hxl : xL C = L := by
    show (Int32.ofInt (L : Int)).toInt.toNat = L
    rw [t32 (by unfold R; omega)]
    exact Int.toNat_natCast L
  refine ⟨C, rfl, rfl, hxl, rfl, rfl, ⟨fun c q hq => ?_, fun k q hq => ?_⟩, ?_, ?_, ?_, ⟨?_, ?_⟩, ⟨⟨?_, ?_⟩, ?_, ?_, ?_⟩⟩
  · match c, hq with
    | 0, hq => cases hq; exact k0
    | 1, hq => cases hq; exact k1
    | 2, hq => cases hq; exact k2
    | 3, hq => cases hq; exact k3
    | 4, hq => cases hq; exact k4
    | 5, hq => cases hq; exact k5
    | 6, hq => cases hq; exact k6
    | 7, hq => cases hq; exact k7
    | 8, hq => cases hq; exact k8
    | 9, hq => cases hq; exact k9
    | 10, hq => cases hq; exact k10
    | 11, hq => cases hq; exact k11
    | 12, hq => cases hq; exact k12
    | 13, hq => cases hq; exact k13
    | c + 14, hq => exact absurd (List.getElem?_eq_some_iff.mp hq).1 (by simp [vwCl])
  · match k, hq with
    | 0, hq => cases hq; exact ha0
    | 1, hq => cases hq; exact ha1
    | 2, hq => cases hq; exact ha2
    | 3, hq => cases hq; exact ha3
    | k + 4, hq => exact absurd (List.getElem?_eq_some_iff.mp hq).1 (by simp [tyl])
  · intro w hw
    have h1 := (List.mem_filter.mp hw).1
    have h2 := (List.mem_filter.mp hw).2
    have h3 := hts _ (in_tb h1)
    revert h2 h3
    clear hw h1
    cases w <;> intro h2 h3 <;> first | exact va_Nw.of rfl h3 | cases h2
  · have row : ∀ (i t : Nat) (f : List Int32), va_T .int t f.length (fun j => .int ((f[j]?).getD 0)) (oldA s) s s.heap → xO C i = t → (∀ j, j < f.length → xV C i j = (f[j]?).getD 0) → roC C i f.length s s.heap := by
      intro i t f ⟨cl, h1, h2, h3, h4, h5, h6, h7⟩ e1 e2
      refine ⟨cl, by rw [e1]; exact Nat.not_le.mp h7, by rw [e1]; exact h1, h2, h3, ⟨h4, h5⟩, fun j hj => ?_⟩
      rw [e2 j hj]; exact h6 j hj
    refine List.forall_mem_cons.mpr ⟨?_, List.forall_mem_cons.mpr ⟨?_, List.forall_mem_cons.mpr ⟨?_, List.forall_mem_cons.mpr ⟨?_, List.forall_mem_cons.mpr ⟨?_, List.forall_mem_cons.mpr ⟨?_, List.forall_mem_cons.mpr ⟨?_, List.forall_mem_cons.mpr ⟨?_, List.forall_mem_cons.mpr ⟨?_, fun _ h => absurd h List.not_mem_nil⟩⟩⟩⟩⟩⟩⟩⟩⟩
    · exact row 1000 r0 [-1, -1, 0, 0, 1, 1] t0 rfl (by intro j hj; rfl)
    · exact row 1001 r1 [0, 1, -1, 1, -1, 0] t1 rfl (by intro j hj; rfl)
    · exact row 1002 r2 [1, 1, 2] t2 rfl (by intro j hj; rfl)
    · exact row 1003 r3 [-2, 1, -1] t3 rfl (by intro j hj; rfl)
    · exact row 1004 r4 [0, 0, 1] t4 rfl (by intro j hj; rfl)
    · exact row 1005 r5 [-1, 1, -1] t5 rfl (by intro j hj; rfl)
    · exact row 1006 r6 [1, 1, 1] t6 rfl (by intro j hj; rfl)
    · exact row 1007 r7 [-1, 0, 0] t7 rfl (by intro j hj; rfl)
    · show roC C 1200 (xL C) s s.heap
      rw [hxl]
      obtain ⟨cl, h1, h2, h3, h4, h5⟩ := hX
      refine ⟨cl, hbl, h1, h2, h3, ⟨Nat.le_of_eq h4.symm, by rw [h4]⟩, fun j hj => ?_⟩
      rw [h5 j hj]
      show some (Value.int (xs j)) = some (.int (if j < L then xs j else 0))
      rw [if_pos hj]
  · refine List.forall_mem_cons.mpr ⟨?_, List.forall_mem_cons.mpr ⟨?_, List.forall_mem_cons.mpr ⟨?_, List.forall_mem_cons.mpr ⟨?_, List.forall_mem_cons.mpr ⟨?_, List.forall_mem_cons.mpr ⟨?_, List.forall_mem_cons.mpr ⟨?_, List.forall_mem_cons.mpr ⟨?_, fun _ h => absurd h List.not_mem_nil⟩⟩⟩⟩⟩⟩⟩⟩
    · exact z0
    · exact z1
    · exact z2
    · exact z3
    · exact z4
    · exact z5
    · exact z6
    · exact z7
  · exact zdO
  · exact tdO
  · exact va_AO.of (hts _ (in_tb (List.mem_of_getElem? (i := 136) (by decide +kernel))))
  · refine List.forall_mem_cons.mpr ⟨?_, List.forall_mem_cons.mpr ⟨?_, List.forall_mem_cons.mpr ⟨?_, List.forall_mem_cons.mpr ⟨?_, List.forall_mem_cons.mpr ⟨?_, List.forall_mem_cons.mpr ⟨?_, List.forall_mem_cons.mpr ⟨?_, List.forall_mem_cons.mpr ⟨?_, List.forall_mem_cons.mpr ⟨?_, List.forall_mem_cons.mpr ⟨?_, List.forall_mem_cons.mpr ⟨?_, List.forall_mem_cons.mpr ⟨?_, List.forall_mem_cons.mpr ⟨?_, fun _ h => absurd h List.not_mem_nil⟩⟩⟩⟩⟩⟩⟩⟩⟩⟩⟩⟩⟩
    · exact e2020
    · exact e2021
    · exact e2022
    · exact e2023
    · exact e2024
    · exact e2025
    · exact e2026
    · exact e2000
    · exact e2001
    · exact e2002
    · exact e2003
    · exact e2004
    · exact e2005
  · intro w hw
    have hc : w = 0 ∨ w = 1 ∨ w = 2 ∨ w = 3 ∨ w = 4 ∨ w = 5 ∨ w = 20 ∨ w = 21 ∨ w = 22 ∨ w = 23 ∨ w = 24 ∨ w = 25 ∨ w = 26 := by unfold isStr at hw; omega
    rcases hc with rfl | rfl | rfl | rfl | rfl | rfl | rfl | rfl | rfl | rfl | rfl | rfl | rfl
    · exact ⟨o2000, f2000, g2000, q2000⟩
    · exact ⟨o2001, f2001, g2001, q2001⟩
    · exact ⟨o2002, f2002, g2002, q2002⟩
    · exact ⟨o2003, f2003, g2003, q2003⟩
    · exact ⟨o2004, f2004, g2004, q2004⟩
    · exact ⟨o2005, f2005, g2005, q2005⟩
    · exact ⟨o2020, f2020, g2020, q2020⟩
    · exact ⟨o2021, f2021, g2021, q2021⟩
    · exact ⟨o2022, f2022, g2022, q2022⟩
    · exact ⟨o2023, f2023, g2023, q2023⟩
    · exact ⟨o2024, f2024, g2024, q2024⟩
    · exact ⟨o2025, f2025, g2025, q2025⟩
    · exact ⟨o2026, f2026, g2026, q2026⟩
  · exact va_Zof (hts _ (in_tb (List.mem_of_getElem? (i := 442) (by decide +kernel)))) (hts _ (in_tb (List.mem_of_getElem? (i := 16) (by decide +kernel)))) (va_eqi (hg (.eq (.static "java/lang/String" "COMPACT_STRINGS" "Z") (.int 1)) (by decide +kernel))) (oldA_no s)
  · exact hz19
/-- the machine's state before the law, in whole numbers -/
def sgS (L : Nat) (xs : Nat → Int32) (z : Int32) : Sg := (fun a k => if a < 1000 then 0 else (oldV L xs z a k).toInt, fun _ _ => 0, fun _ _ => 0)

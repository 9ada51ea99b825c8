abbrev M_X0_init : Mk := (yX0_init, cX0_init, 2, none, [])
abbrev M_X10_init : Mk := (yX10_init, cX10_init, 4, none, [])
abbrev M_X11_init : Mk := (yX11_init, cX11_init, 1, none, [])
abbrev M_X1_init : Mk := (yX1_init, cX1_init, 2, none, [])
abbrev M_X2_init : Mk := (yX2_init, cX2_init, 3, none, [])
abbrev M_X3_init : Mk := (yX3_init, cX3_init, 3, none, [])
abbrev M_X4_init : Mk := (yX4_init, cX4_init, 2, none, [])
abbrev M_X5_init : Mk := (yX5_init, cX5_init, 1, none, [])
abbrev M_X6_init : Mk := (yX6_init, cX6_init, 2, none, [])
abbrev M_X7_init : Mk := (yX7_init, cX7_init, 2, none, [])
abbrev M_X8_init : Mk := (yX8_init, cX8_init, 2, none, [])
abbrev M_X9_init : Mk := (yX9_init, cX9_init, 1, none, [])
theorem lk0_X0_init : LK0 M_X0_init 1 := ⟨(lw_all_mem (List.mem_append_right _ (List.mem_of_getElem? (i := 9) (by decide +kernel))) (by decide +kernel)), (lw_all_mem (List.mem_append_right _ (List.mem_of_getElem? (i := 215) (by decide +kernel))) (by decide +kernel)), ⟨by decide +kernel, by decide +kernel, by decide +kernel⟩, by decide +kernel⟩
theorem lk0_X10_init : LK0 M_X10_init 3 := ⟨(lw_all_mem (List.mem_append_right _ (List.mem_of_getElem? (i := 8) (by decide +kernel))) (by decide +kernel)), (lw_all_mem (List.mem_append_right _ (List.mem_of_getElem? (i := 171) (by decide +kernel))) (by decide +kernel)), ⟨by decide +kernel, by decide +kernel, by decide +kernel⟩, by decide +kernel⟩
theorem lk0_X11_init : LK0 M_X11_init 0 := ⟨(lw_all_mem (List.mem_append_right _ (List.mem_of_getElem? (i := 1) (by decide +kernel))) (by decide +kernel)), (lw_all_mem (List.mem_append_right _ (List.mem_of_getElem? (i := 33) (by decide +kernel))) (by decide +kernel)), ⟨by decide +kernel, by decide +kernel, by decide +kernel⟩, by decide +kernel⟩
theorem lk0_X1_init : LK0 M_X1_init 1 := ⟨(lw_all_mem (List.mem_append_right _ (List.mem_of_getElem? (i := 6) (by decide +kernel))) (by decide +kernel)), (lw_all_mem (List.mem_append_right _ (List.mem_of_getElem? (i := 153) (by decide +kernel))) (by decide +kernel)), ⟨by decide +kernel, by decide +kernel, by decide +kernel⟩, by decide +kernel⟩
theorem lk0_X2_init : LK0 M_X2_init 2 := ⟨(lw_all_mem (List.mem_append_right _ (List.mem_of_getElem? (i := 12) (by decide +kernel))) (by decide +kernel)), (lw_all_mem (List.mem_append_right _ (List.mem_of_getElem? (i := 285) (by decide +kernel))) (by decide +kernel)), ⟨by decide +kernel, by decide +kernel, by decide +kernel⟩, by decide +kernel⟩
theorem lk0_X3_init : LK0 M_X3_init 2 := ⟨(lw_all_mem (List.mem_append_right _ (List.mem_of_getElem? (i := 13) (by decide +kernel))) (by decide +kernel)), (lw_all_mem (List.mem_append_right _ (List.mem_of_getElem? (i := 310) (by decide +kernel))) (by decide +kernel)), ⟨by decide +kernel, by decide +kernel, by decide +kernel⟩, by decide +kernel⟩
theorem lk0_X4_init : LK0 M_X4_init 1 := ⟨(lw_all_mem (List.mem_append_right _ (List.mem_of_getElem? (i := 11) (by decide +kernel))) (by decide +kernel)), (lw_all_mem (List.mem_append_right _ (List.mem_of_getElem? (i := 266) (by decide +kernel))) (by decide +kernel)), ⟨by decide +kernel, by decide +kernel, by decide +kernel⟩, by decide +kernel⟩
theorem lk0_X5_init : LK0 M_X5_init 0 := ⟨(lw_all_mem (List.mem_append_right _ (List.mem_of_getElem? (i := 2) (by decide +kernel))) (by decide +kernel)), (lw_all_mem (List.mem_append_right _ (List.mem_of_getElem? (i := 41) (by decide +kernel))) (by decide +kernel)), ⟨by decide +kernel, by decide +kernel, by decide +kernel⟩, by decide +kernel⟩
theorem lk0_X6_init : LK0 M_X6_init 0 := ⟨(lw_all_mem (List.mem_append_right _ (List.mem_of_getElem? (i := 5) (by decide +kernel))) (by decide +kernel)), (lw_all_mem (List.mem_append_right _ (List.mem_of_getElem? (i := 133) (by decide +kernel))) (by decide +kernel)), ⟨by decide +kernel, by decide +kernel, by decide +kernel⟩, by decide +kernel⟩
theorem lk0_X7_init : LK0 M_X7_init 1 := ⟨(lw_all_mem (List.mem_append_right _ (List.mem_of_getElem? (i := 3) (by decide +kernel))) (by decide +kernel)), (lw_all_mem (List.mem_append_right _ (List.mem_of_getElem? (i := 71) (by decide +kernel))) (by decide +kernel)), ⟨by decide +kernel, by decide +kernel, by decide +kernel⟩, by decide +kernel⟩
theorem lk0_X8_init : LK0 M_X8_init 1 := ⟨(lw_all_mem (List.mem_append_right _ (List.mem_of_getElem? (i := 10) (by decide +kernel))) (by decide +kernel)), (lw_all_mem (List.mem_append_right _ (List.mem_of_getElem? (i := 247) (by decide +kernel))) (by decide +kernel)), ⟨by decide +kernel, by decide +kernel, by decide +kernel⟩, by decide +kernel⟩
theorem lk0_X9_init : LK0 M_X9_init 0 := ⟨(lw_all_mem (List.mem_append_right _ (List.mem_of_getElem? (i := 4) (by decide +kernel))) (by decide +kernel)), (lw_all_mem (List.mem_append_right _ (List.mem_of_getElem? (i := 96) (by decide +kernel))) (by decide +kernel)), ⟨by decide +kernel, by decide +kernel, by decide +kernel⟩, by decide +kernel⟩
theorem lkL_212 (M : Mk) (h : (mY M).cls = RL) : LKI M M_X11_init 212 0 := ⟨lk0_X11_init, by rw [h]; exact (lw_all_mem (List.mem_append_right _ (List.mem_of_getElem? (i := 31) (by decide +kernel))) (by decide +kernel)), (lw_all_mem (List.mem_append_right _ (List.mem_of_getElem? (i := 32) (by decide +kernel))) (by decide +kernel)), rfl, rfl⟩
theorem lkX10_25 (M : Mk) (h : (mY M).cls = RX10) : LKI M M_X9_init 25 0 := ⟨lk0_X9_init, by rw [h]; exact (lw_all_mem (List.mem_append_right _ (List.mem_of_getElem? (i := 174) (by decide +kernel))) (by decide +kernel)), (lw_all_mem (List.mem_append_right _ (List.mem_of_getElem? (i := 95) (by decide +kernel))) (by decide +kernel)), rfl, rfl⟩
theorem lkX11_104 (M : Mk) (h : (mY M).cls = RX11) : LKI M M_X3_init 104 2 := ⟨lk0_X3_init, by rw [h]; exact (lw_all_mem (List.mem_append_right _ (List.mem_of_getElem? (i := 308) (by decide +kernel))) (by decide +kernel)), (lw_all_mem (List.mem_append_right _ (List.mem_of_getElem? (i := 309) (by decide +kernel))) (by decide +kernel)), rfl, rfl⟩
theorem lkX11_112 (M : Mk) (h : (mY M).cls = RX11) : LKV M M_X9_begin 112 1 := ⟨lk0_X9_begin, by rw [h]; exact (lw_all_mem (List.mem_append_right _ (List.mem_of_getElem? (i := 359) (by decide +kernel))) (by decide +kernel)), (lw_all_mem (List.mem_append_right _ (List.mem_of_getElem? (i := 360) (by decide +kernel))) (by decide +kernel)), (lw_all_mem (List.mem_append_right _ (List.mem_of_getElem? (i := 361) (by decide +kernel))) (by decide +kernel))⟩
theorem lkX11_18 (M : Mk) (h : (mY M).cls = RX11) : LKI M M_X7_init 18 1 := ⟨lk0_X7_init, by rw [h]; exact (lw_all_mem (List.mem_append_right _ (List.mem_of_getElem? (i := 69) (by decide +kernel))) (by decide +kernel)), (lw_all_mem (List.mem_append_right _ (List.mem_of_getElem? (i := 70) (by decide +kernel))) (by decide +kernel)), rfl, rfl⟩
theorem lkX11_27 (M : Mk) (h : (mY M).cls = RX11) : LKI M M_X9_init 27 0 := ⟨lk0_X9_init, by rw [h]; exact (lw_all_mem (List.mem_append_right _ (List.mem_of_getElem? (i := 94) (by decide +kernel))) (by decide +kernel)), (lw_all_mem (List.mem_append_right _ (List.mem_of_getElem? (i := 95) (by decide +kernel))) (by decide +kernel)), rfl, rfl⟩
theorem lkX11_37 (M : Mk) (h : (mY M).cls = RX11) : LKI M M_X6_init 37 0 := ⟨lk0_X6_init, by rw [h]; exact (lw_all_mem (List.mem_append_right _ (List.mem_of_getElem? (i := 131) (by decide +kernel))) (by decide +kernel)), (lw_all_mem (List.mem_append_right _ (List.mem_of_getElem? (i := 132) (by decide +kernel))) (by decide +kernel)), rfl, rfl⟩
theorem lkX11_50 (M : Mk) (h : (mY M).cls = RX11) : LKI M M_X1_init 50 1 := ⟨lk0_X1_init, by rw [h]; exact (lw_all_mem (List.mem_append_right _ (List.mem_of_getElem? (i := 151) (by decide +kernel))) (by decide +kernel)), (lw_all_mem (List.mem_append_right _ (List.mem_of_getElem? (i := 152) (by decide +kernel))) (by decide +kernel)), rfl, rfl⟩
theorem lkX11_62 (M : Mk) (h : (mY M).cls = RX11) : LKI M M_X10_init 62 3 := ⟨lk0_X10_init, by rw [h]; exact (lw_all_mem (List.mem_append_right _ (List.mem_of_getElem? (i := 169) (by decide +kernel))) (by decide +kernel)), (lw_all_mem (List.mem_append_right _ (List.mem_of_getElem? (i := 170) (by decide +kernel))) (by decide +kernel)), rfl, rfl⟩
theorem lkX11_71 (M : Mk) (h : (mY M).cls = RX11) : LKI M M_X0_init 71 1 := ⟨lk0_X0_init, by rw [h]; exact (lw_all_mem (List.mem_append_right _ (List.mem_of_getElem? (i := 213) (by decide +kernel))) (by decide +kernel)), (lw_all_mem (List.mem_append_right _ (List.mem_of_getElem? (i := 214) (by decide +kernel))) (by decide +kernel)), rfl, rfl⟩
theorem lkX11_78 (M : Mk) (h : (mY M).cls = RX11) : LKI M M_X8_init 78 1 := ⟨lk0_X8_init, by rw [h]; exact (lw_all_mem (List.mem_append_right _ (List.mem_of_getElem? (i := 245) (by decide +kernel))) (by decide +kernel)), (lw_all_mem (List.mem_append_right _ (List.mem_of_getElem? (i := 246) (by decide +kernel))) (by decide +kernel)), rfl, rfl⟩
theorem lkX11_88 (M : Mk) (h : (mY M).cls = RX11) : LKI M M_X4_init 88 1 := ⟨lk0_X4_init, by rw [h]; exact (lw_all_mem (List.mem_append_right _ (List.mem_of_getElem? (i := 264) (by decide +kernel))) (by decide +kernel)), (lw_all_mem (List.mem_append_right _ (List.mem_of_getElem? (i := 265) (by decide +kernel))) (by decide +kernel)), rfl, rfl⟩
theorem lkX11_9 (M : Mk) (h : (mY M).cls = RX11) : LKI M M_X5_init 9 0 := ⟨lk0_X5_init, by rw [h]; exact (lw_all_mem (List.mem_append_right _ (List.mem_of_getElem? (i := 39) (by decide +kernel))) (by decide +kernel)), (lw_all_mem (List.mem_append_right _ (List.mem_of_getElem? (i := 40) (by decide +kernel))) (by decide +kernel)), rfl, rfl⟩
theorem lkX11_95 (M : Mk) (h : (mY M).cls = RX11) : LKI M M_X2_init 95 2 := ⟨lk0_X2_init, by rw [h]; exact (lw_all_mem (List.mem_append_right _ (List.mem_of_getElem? (i := 283) (by decide +kernel))) (by decide +kernel)), (lw_all_mem (List.mem_append_right _ (List.mem_of_getElem? (i := 284) (by decide +kernel))) (by decide +kernel)), rfl, rfl⟩
theorem lkX1_9 {M : Mk} (h : (mY M).cls = RX1) : Cond.methodLink (mY M).cls 9 Lib.Math.max.name ∈ lw_all ∧ Cond.static Lib.Math.max.name ∈ lw_all ∧ Cond.initialized "java/lang/Math" ∈ lw_all ∧ Cond.code Lib.Math.max.name Lib.Math.max.code 2 (some .int) ∈ lw_all := ⟨by rw [h]; exact (lw_all_mem (List.mem_append_right _ (List.mem_of_getElem? (i := 155) (by decide +kernel))) (by decide +kernel)), (lw_all_mem (List.mem_append_right _ (List.mem_of_getElem? (i := 156) (by decide +kernel))) (by decide +kernel)), (lw_all_mem (List.mem_append_right _ (List.mem_of_getElem? (i := 7) (by decide +kernel))) (by decide +kernel)), (lw_all_mem (List.mem_append_right _ (List.mem_of_getElem? (i := 157) (by decide +kernel))) (by decide +kernel))⟩
theorem lkX6_17 (M : Mk) (h : (mY M).cls = RX6) : LKI M M_X9_init 17 0 := ⟨lk0_X9_init, by rw [h]; exact (lw_all_mem (List.mem_append_right _ (List.mem_of_getElem? (i := 137) (by decide +kernel))) (by decide +kernel)), (lw_all_mem (List.mem_append_right _ (List.mem_of_getElem? (i := 95) (by decide +kernel))) (by decide +kernel)), rfl, rfl⟩
theorem na_boolean : Cond.arrayClass .boolean ∈ lw_all := (lw_all_mem (List.mem_append_right _ (List.mem_of_getElem? (i := 579) (by decide +kernel))) (by decide +kernel))
theorem na_byte : Cond.arrayClass .byte ∈ lw_all := (lw_all_mem (List.mem_append_right _ (List.mem_of_getElem? (i := 580) (by decide +kernel))) (by decide +kernel))
theorem na_int : Cond.arrayClass .int ∈ lw_all := (lw_all_mem (List.mem_append_right _ (List.mem_of_getElem? (i := 66) (by decide +kernel))) (by decide +kernel))
theorem nqX6_9 {M : Mk} (h : (mY M).cls = RX6) : Cond.classLink (mY M).cls 9 "HexArbiter$Position" ∈ lw_all := by rw [h]; exact (lw_all_mem (List.mem_append_right _ (List.mem_of_getElem? (i := 135) (by decide +kernel))) (by decide +kernel))
theorem nwL_25 {M : Mk} (h : (mY M).cls = RL) : Cond.classLink (mY M).cls 25 (cR 11) ∈ lw_all ∧ Cond.instantiable (cR 11) (cn 11) ∈ lw_all ∧ Cond.initialized (cR 11) ∈ lw_all := ⟨by rw [h]; exact (lw_all_mem (List.mem_append_right _ (List.mem_of_getElem? (i := 29) (by decide +kernel))) (by decide +kernel)), (lw_all_mem (List.mem_append_right _ (List.mem_of_getElem? (i := 30) (by decide +kernel))) (by decide +kernel)), (lw_all_mem (List.mem_append_right _ (List.mem_of_getElem? (i := 1) (by decide +kernel))) (by decide +kernel))⟩
theorem nwX10_23 {M : Mk} (h : (mY M).cls = RX10) : Cond.classLink (mY M).cls 23 (cR 9) ∈ lw_all ∧ Cond.instantiable (cR 9) (cn 9) ∈ lw_all ∧ Cond.initialized (cR 9) ∈ lw_all := ⟨by rw [h]; exact (lw_all_mem (List.mem_append_right _ (List.mem_of_getElem? (i := 173) (by decide +kernel))) (by decide +kernel)), (lw_all_mem (List.mem_append_right _ (List.mem_of_getElem? (i := 93) (by decide +kernel))) (by decide +kernel)), (lw_all_mem (List.mem_append_right _ (List.mem_of_getElem? (i := 4) (by decide +kernel))) (by decide +kernel))⟩
theorem nwX11_102 {M : Mk} (h : (mY M).cls = RX11) : Cond.classLink (mY M).cls 102 (cR 3) ∈ lw_all ∧ Cond.instantiable (cR 3) (cn 3) ∈ lw_all ∧ Cond.initialized (cR 3) ∈ lw_all := ⟨by rw [h]; exact (lw_all_mem (List.mem_append_right _ (List.mem_of_getElem? (i := 306) (by decide +kernel))) (by decide +kernel)), (lw_all_mem (List.mem_append_right _ (List.mem_of_getElem? (i := 307) (by decide +kernel))) (by decide +kernel)), (lw_all_mem (List.mem_append_right _ (List.mem_of_getElem? (i := 13) (by decide +kernel))) (by decide +kernel))⟩
theorem nwX11_16 {M : Mk} (h : (mY M).cls = RX11) : Cond.classLink (mY M).cls 16 (cR 7) ∈ lw_all ∧ Cond.instantiable (cR 7) (cn 7) ∈ lw_all ∧ Cond.initialized (cR 7) ∈ lw_all := ⟨by rw [h]; exact (lw_all_mem (List.mem_append_right _ (List.mem_of_getElem? (i := 67) (by decide +kernel))) (by decide +kernel)), (lw_all_mem (List.mem_append_right _ (List.mem_of_getElem? (i := 68) (by decide +kernel))) (by decide +kernel)), (lw_all_mem (List.mem_append_right _ (List.mem_of_getElem? (i := 3) (by decide +kernel))) (by decide +kernel))⟩
theorem nwX11_25 {M : Mk} (h : (mY M).cls = RX11) : Cond.classLink (mY M).cls 25 (cR 9) ∈ lw_all ∧ Cond.instantiable (cR 9) (cn 9) ∈ lw_all ∧ Cond.initialized (cR 9) ∈ lw_all := ⟨by rw [h]; exact (lw_all_mem (List.mem_append_right _ (List.mem_of_getElem? (i := 92) (by decide +kernel))) (by decide +kernel)), (lw_all_mem (List.mem_append_right _ (List.mem_of_getElem? (i := 93) (by decide +kernel))) (by decide +kernel)), (lw_all_mem (List.mem_append_right _ (List.mem_of_getElem? (i := 4) (by decide +kernel))) (by decide +kernel))⟩
theorem nwX11_35 {M : Mk} (h : (mY M).cls = RX11) : Cond.classLink (mY M).cls 35 (cR 6) ∈ lw_all ∧ Cond.instantiable (cR 6) (cn 6) ∈ lw_all ∧ Cond.initialized (cR 6) ∈ lw_all := ⟨by rw [h]; exact (lw_all_mem (List.mem_append_right _ (List.mem_of_getElem? (i := 129) (by decide +kernel))) (by decide +kernel)), (lw_all_mem (List.mem_append_right _ (List.mem_of_getElem? (i := 130) (by decide +kernel))) (by decide +kernel)), (lw_all_mem (List.mem_append_right _ (List.mem_of_getElem? (i := 5) (by decide +kernel))) (by decide +kernel))⟩
theorem nwX11_48 {M : Mk} (h : (mY M).cls = RX11) : Cond.classLink (mY M).cls 48 (cR 1) ∈ lw_all ∧ Cond.instantiable (cR 1) (cn 1) ∈ lw_all ∧ Cond.initialized (cR 1) ∈ lw_all := ⟨by rw [h]; exact (lw_all_mem (List.mem_append_right _ (List.mem_of_getElem? (i := 149) (by decide +kernel))) (by decide +kernel)), (lw_all_mem (List.mem_append_right _ (List.mem_of_getElem? (i := 150) (by decide +kernel))) (by decide +kernel)), (lw_all_mem (List.mem_append_right _ (List.mem_of_getElem? (i := 6) (by decide +kernel))) (by decide +kernel))⟩
theorem nwX11_60 {M : Mk} (h : (mY M).cls = RX11) : Cond.classLink (mY M).cls 60 (cR 10) ∈ lw_all ∧ Cond.instantiable (cR 10) (cn 10) ∈ lw_all ∧ Cond.initialized (cR 10) ∈ lw_all := ⟨by rw [h]; exact (lw_all_mem (List.mem_append_right _ (List.mem_of_getElem? (i := 167) (by decide +kernel))) (by decide +kernel)), (lw_all_mem (List.mem_append_right _ (List.mem_of_getElem? (i := 168) (by decide +kernel))) (by decide +kernel)), (lw_all_mem (List.mem_append_right _ (List.mem_of_getElem? (i := 8) (by decide +kernel))) (by decide +kernel))⟩
theorem nwX11_69 {M : Mk} (h : (mY M).cls = RX11) : Cond.classLink (mY M).cls 69 (cR 0) ∈ lw_all ∧ Cond.instantiable (cR 0) (cn 0) ∈ lw_all ∧ Cond.initialized (cR 0) ∈ lw_all := ⟨by rw [h]; exact (lw_all_mem (List.mem_append_right _ (List.mem_of_getElem? (i := 211) (by decide +kernel))) (by decide +kernel)), (lw_all_mem (List.mem_append_right _ (List.mem_of_getElem? (i := 212) (by decide +kernel))) (by decide +kernel)), (lw_all_mem (List.mem_append_right _ (List.mem_of_getElem? (i := 9) (by decide +kernel))) (by decide +kernel))⟩
theorem nwX11_7 {M : Mk} (h : (mY M).cls = RX11) : Cond.classLink (mY M).cls 7 (cR 5) ∈ lw_all ∧ Cond.instantiable (cR 5) (cn 5) ∈ lw_all ∧ Cond.initialized (cR 5) ∈ lw_all := ⟨by rw [h]; exact (lw_all_mem (List.mem_append_right _ (List.mem_of_getElem? (i := 37) (by decide +kernel))) (by decide +kernel)), (lw_all_mem (List.mem_append_right _ (List.mem_of_getElem? (i := 38) (by decide +kernel))) (by decide +kernel)), (lw_all_mem (List.mem_append_right _ (List.mem_of_getElem? (i := 2) (by decide +kernel))) (by decide +kernel))⟩
theorem nwX11_76 {M : Mk} (h : (mY M).cls = RX11) : Cond.classLink (mY M).cls 76 (cR 8) ∈ lw_all ∧ Cond.instantiable (cR 8) (cn 8) ∈ lw_all ∧ Cond.initialized (cR 8) ∈ lw_all := ⟨by rw [h]; exact (lw_all_mem (List.mem_append_right _ (List.mem_of_getElem? (i := 243) (by decide +kernel))) (by decide +kernel)), (lw_all_mem (List.mem_append_right _ (List.mem_of_getElem? (i := 244) (by decide +kernel))) (by decide +kernel)), (lw_all_mem (List.mem_append_right _ (List.mem_of_getElem? (i := 10) (by decide +kernel))) (by decide +kernel))⟩
theorem nwX11_86 {M : Mk} (h : (mY M).cls = RX11) : Cond.classLink (mY M).cls 86 (cR 4) ∈ lw_all ∧ Cond.instantiable (cR 4) (cn 4) ∈ lw_all ∧ Cond.initialized (cR 4) ∈ lw_all := ⟨by rw [h]; exact (lw_all_mem (List.mem_append_right _ (List.mem_of_getElem? (i := 262) (by decide +kernel))) (by decide +kernel)), (lw_all_mem (List.mem_append_right _ (List.mem_of_getElem? (i := 263) (by decide +kernel))) (by decide +kernel)), (lw_all_mem (List.mem_append_right _ (List.mem_of_getElem? (i := 11) (by decide +kernel))) (by decide +kernel))⟩
theorem nwX11_93 {M : Mk} (h : (mY M).cls = RX11) : Cond.classLink (mY M).cls 93 (cR 2) ∈ lw_all ∧ Cond.instantiable (cR 2) (cn 2) ∈ lw_all ∧ Cond.initialized (cR 2) ∈ lw_all := ⟨by rw [h]; exact (lw_all_mem (List.mem_append_right _ (List.mem_of_getElem? (i := 281) (by decide +kernel))) (by decide +kernel)), (lw_all_mem (List.mem_append_right _ (List.mem_of_getElem? (i := 282) (by decide +kernel))) (by decide +kernel)), (lw_all_mem (List.mem_append_right _ (List.mem_of_getElem? (i := 12) (by decide +kernel))) (by decide +kernel))⟩
theorem nwX6_9 {M : Mk} (h : (mY M).cls = RX6) : Cond.classLink (mY M).cls 9 (cR 9) ∈ lw_all ∧ Cond.instantiable (cR 9) (cn 9) ∈ lw_all ∧ Cond.initialized (cR 9) ∈ lw_all := ⟨by rw [h]; exact (lw_all_mem (List.mem_append_right _ (List.mem_of_getElem? (i := 135) (by decide +kernel))) (by decide +kernel)), (lw_all_mem (List.mem_append_right _ (List.mem_of_getElem? (i := 93) (by decide +kernel))) (by decide +kernel)), (lw_all_mem (List.mem_append_right _ (List.mem_of_getElem? (i := 4) (by decide +kernel))) (by decide +kernel))⟩
theorem obX0_3 {M : Mk} (h : (mY M).cls = RX0) : Cond.methodLink (mY M).cls 3 Lib.objectInit ∈ lw_all ∧ Cond.instanceMethod Lib.objectInit ∈ lw_all ∧ Cond.code Lib.objectInit ⟨#[0xb1]⟩ 1 none ∈ lw_all := ⟨by rw [h]; exact (lw_all_mem (List.mem_append_right _ (List.mem_of_getElem? (i := 216) (by decide +kernel))) (by decide +kernel)), (lw_all_mem (List.mem_append_right _ (List.mem_of_getElem? (i := 35) (by decide +kernel))) (by decide +kernel)), (lw_all_mem (List.mem_append_right _ (List.mem_of_getElem? (i := 36) (by decide +kernel))) (by decide +kernel))⟩
theorem obX10_3 {M : Mk} (h : (mY M).cls = RX10) : Cond.methodLink (mY M).cls 3 Lib.objectInit ∈ lw_all ∧ Cond.instanceMethod Lib.objectInit ∈ lw_all ∧ Cond.code Lib.objectInit ⟨#[0xb1]⟩ 1 none ∈ lw_all := ⟨by rw [h]; exact (lw_all_mem (List.mem_append_right _ (List.mem_of_getElem? (i := 172) (by decide +kernel))) (by decide +kernel)), (lw_all_mem (List.mem_append_right _ (List.mem_of_getElem? (i := 35) (by decide +kernel))) (by decide +kernel)), (lw_all_mem (List.mem_append_right _ (List.mem_of_getElem? (i := 36) (by decide +kernel))) (by decide +kernel))⟩
theorem obX11_1 {M : Mk} (h : (mY M).cls = RX11) : Cond.methodLink (mY M).cls 1 Lib.objectInit ∈ lw_all ∧ Cond.instanceMethod Lib.objectInit ∈ lw_all ∧ Cond.code Lib.objectInit ⟨#[0xb1]⟩ 1 none ∈ lw_all := ⟨by rw [h]; exact (lw_all_mem (List.mem_append_right _ (List.mem_of_getElem? (i := 34) (by decide +kernel))) (by decide +kernel)), (lw_all_mem (List.mem_append_right _ (List.mem_of_getElem? (i := 35) (by decide +kernel))) (by decide +kernel)), (lw_all_mem (List.mem_append_right _ (List.mem_of_getElem? (i := 36) (by decide +kernel))) (by decide +kernel))⟩
theorem obX1_3 {M : Mk} (h : (mY M).cls = RX1) : Cond.methodLink (mY M).cls 3 Lib.objectInit ∈ lw_all ∧ Cond.instanceMethod Lib.objectInit ∈ lw_all ∧ Cond.code Lib.objectInit ⟨#[0xb1]⟩ 1 none ∈ lw_all := ⟨by rw [h]; exact (lw_all_mem (List.mem_append_right _ (List.mem_of_getElem? (i := 154) (by decide +kernel))) (by decide +kernel)), (lw_all_mem (List.mem_append_right _ (List.mem_of_getElem? (i := 35) (by decide +kernel))) (by decide +kernel)), (lw_all_mem (List.mem_append_right _ (List.mem_of_getElem? (i := 36) (by decide +kernel))) (by decide +kernel))⟩
theorem obX2_3 {M : Mk} (h : (mY M).cls = RX2) : Cond.methodLink (mY M).cls 3 Lib.objectInit ∈ lw_all ∧ Cond.instanceMethod Lib.objectInit ∈ lw_all ∧ Cond.code Lib.objectInit ⟨#[0xb1]⟩ 1 none ∈ lw_all := ⟨by rw [h]; exact (lw_all_mem (List.mem_append_right _ (List.mem_of_getElem? (i := 286) (by decide +kernel))) (by decide +kernel)), (lw_all_mem (List.mem_append_right _ (List.mem_of_getElem? (i := 35) (by decide +kernel))) (by decide +kernel)), (lw_all_mem (List.mem_append_right _ (List.mem_of_getElem? (i := 36) (by decide +kernel))) (by decide +kernel))⟩
theorem obX3_3 {M : Mk} (h : (mY M).cls = RX3) : Cond.methodLink (mY M).cls 3 Lib.objectInit ∈ lw_all ∧ Cond.instanceMethod Lib.objectInit ∈ lw_all ∧ Cond.code Lib.objectInit ⟨#[0xb1]⟩ 1 none ∈ lw_all := ⟨by rw [h]; exact (lw_all_mem (List.mem_append_right _ (List.mem_of_getElem? (i := 311) (by decide +kernel))) (by decide +kernel)), (lw_all_mem (List.mem_append_right _ (List.mem_of_getElem? (i := 35) (by decide +kernel))) (by decide +kernel)), (lw_all_mem (List.mem_append_right _ (List.mem_of_getElem? (i := 36) (by decide +kernel))) (by decide +kernel))⟩
theorem obX4_3 {M : Mk} (h : (mY M).cls = RX4) : Cond.methodLink (mY M).cls 3 Lib.objectInit ∈ lw_all ∧ Cond.instanceMethod Lib.objectInit ∈ lw_all ∧ Cond.code Lib.objectInit ⟨#[0xb1]⟩ 1 none ∈ lw_all := ⟨by rw [h]; exact (lw_all_mem (List.mem_append_right _ (List.mem_of_getElem? (i := 267) (by decide +kernel))) (by decide +kernel)), (lw_all_mem (List.mem_append_right _ (List.mem_of_getElem? (i := 35) (by decide +kernel))) (by decide +kernel)), (lw_all_mem (List.mem_append_right _ (List.mem_of_getElem? (i := 36) (by decide +kernel))) (by decide +kernel))⟩
theorem obX5_3 {M : Mk} (h : (mY M).cls = RX5) : Cond.methodLink (mY M).cls 3 Lib.objectInit ∈ lw_all ∧ Cond.instanceMethod Lib.objectInit ∈ lw_all ∧ Cond.code Lib.objectInit ⟨#[0xb1]⟩ 1 none ∈ lw_all := ⟨by rw [h]; exact (lw_all_mem (List.mem_append_right _ (List.mem_of_getElem? (i := 42) (by decide +kernel))) (by decide +kernel)), (lw_all_mem (List.mem_append_right _ (List.mem_of_getElem? (i := 35) (by decide +kernel))) (by decide +kernel)), (lw_all_mem (List.mem_append_right _ (List.mem_of_getElem? (i := 36) (by decide +kernel))) (by decide +kernel))⟩
theorem obX6_3 {M : Mk} (h : (mY M).cls = RX6) : Cond.methodLink (mY M).cls 3 Lib.objectInit ∈ lw_all ∧ Cond.instanceMethod Lib.objectInit ∈ lw_all ∧ Cond.code Lib.objectInit ⟨#[0xb1]⟩ 1 none ∈ lw_all := ⟨by rw [h]; exact (lw_all_mem (List.mem_append_right _ (List.mem_of_getElem? (i := 134) (by decide +kernel))) (by decide +kernel)), (lw_all_mem (List.mem_append_right _ (List.mem_of_getElem? (i := 35) (by decide +kernel))) (by decide +kernel)), (lw_all_mem (List.mem_append_right _ (List.mem_of_getElem? (i := 36) (by decide +kernel))) (by decide +kernel))⟩
theorem obX7_3 {M : Mk} (h : (mY M).cls = RX7) : Cond.methodLink (mY M).cls 3 Lib.objectInit ∈ lw_all ∧ Cond.instanceMethod Lib.objectInit ∈ lw_all ∧ Cond.code Lib.objectInit ⟨#[0xb1]⟩ 1 none ∈ lw_all := ⟨by rw [h]; exact (lw_all_mem (List.mem_append_right _ (List.mem_of_getElem? (i := 72) (by decide +kernel))) (by decide +kernel)), (lw_all_mem (List.mem_append_right _ (List.mem_of_getElem? (i := 35) (by decide +kernel))) (by decide +kernel)), (lw_all_mem (List.mem_append_right _ (List.mem_of_getElem? (i := 36) (by decide +kernel))) (by decide +kernel))⟩
theorem obX8_3 {M : Mk} (h : (mY M).cls = RX8) : Cond.methodLink (mY M).cls 3 Lib.objectInit ∈ lw_all ∧ Cond.instanceMethod Lib.objectInit ∈ lw_all ∧ Cond.code Lib.objectInit ⟨#[0xb1]⟩ 1 none ∈ lw_all := ⟨by rw [h]; exact (lw_all_mem (List.mem_append_right _ (List.mem_of_getElem? (i := 248) (by decide +kernel))) (by decide +kernel)), (lw_all_mem (List.mem_append_right _ (List.mem_of_getElem? (i := 35) (by decide +kernel))) (by decide +kernel)), (lw_all_mem (List.mem_append_right _ (List.mem_of_getElem? (i := 36) (by decide +kernel))) (by decide +kernel))⟩
theorem obX9_3 {M : Mk} (h : (mY M).cls = RX9) : Cond.methodLink (mY M).cls 3 Lib.objectInit ∈ lw_all ∧ Cond.instanceMethod Lib.objectInit ∈ lw_all ∧ Cond.code Lib.objectInit ⟨#[0xb1]⟩ 1 none ∈ lw_all := ⟨by rw [h]; exact (lw_all_mem (List.mem_append_right _ (List.mem_of_getElem? (i := 97) (by decide +kernel))) (by decide +kernel)), (lw_all_mem (List.mem_append_right _ (List.mem_of_getElem? (i := 35) (by decide +kernel))) (by decide +kernel)), (lw_all_mem (List.mem_append_right _ (List.mem_of_getElem? (i := 36) (by decide +kernel))) (by decide +kernel))⟩
theorem pfX0_15 {M : Mk} (h : (mY M).cls = RX0) (hi : (mY M).name = "<init>") : putOK M 15 0 1 := Or.inl ⟨⟨by rw [h]; exact (lw_all_mem (List.mem_append_right _ (List.mem_of_getElem? (i := 218) (by decide +kernel))) (by decide +kernel)), by decide⟩, Or.inr ⟨by decide, hi, by rw [h]; decide⟩⟩
theorem pfX0_19 {M : Mk} (h : (mY M).cls = RX0) (hi : (mY M).name = "<init>") : putOK M 19 0 2 := Or.inl ⟨⟨by rw [h]; exact (lw_all_mem (List.mem_append_right _ (List.mem_of_getElem? (i := 219) (by decide +kernel))) (by decide +kernel)), by decide⟩, Or.inr ⟨by decide, hi, by rw [h]; decide⟩⟩
theorem pfX0_22 {M : Mk} (h : (mY M).cls = RX0) (hi : (mY M).name = "<init>") : putOK M 22 0 3 := Or.inl ⟨⟨by rw [h]; exact (lw_all_mem (List.mem_append_right _ (List.mem_of_getElem? (i := 220) (by decide +kernel))) (by decide +kernel)), by decide⟩, Or.inr ⟨by decide, hi, by rw [h]; decide⟩⟩
theorem pfX0_25 {M : Mk} (h : (mY M).cls = RX0) (hi : (mY M).name = "<init>") : putOK M 25 0 4 := Or.inl ⟨⟨by rw [h]; exact (lw_all_mem (List.mem_append_right _ (List.mem_of_getElem? (i := 221) (by decide +kernel))) (by decide +kernel)), by decide⟩, Or.inr ⟨by decide, hi, by rw [h]; decide⟩⟩
theorem pfX0_28 {M : Mk} (h : (mY M).cls = RX0) (hi : (mY M).name = "<init>") : putOK M 28 0 5 := Or.inl ⟨⟨by rw [h]; exact (lw_all_mem (List.mem_append_right _ (List.mem_of_getElem? (i := 222) (by decide +kernel))) (by decide +kernel)), by decide⟩, Or.inr ⟨by decide, hi, by rw [h]; decide⟩⟩
theorem pfX0_31 {M : Mk} (h : (mY M).cls = RX0) (hi : (mY M).name = "<init>") : putOK M 31 0 6 := Or.inl ⟨⟨by rw [h]; exact (lw_all_mem (List.mem_append_right _ (List.mem_of_getElem? (i := 223) (by decide +kernel))) (by decide +kernel)), by decide⟩, Or.inr ⟨by decide, hi, by rw [h]; decide⟩⟩
theorem pfX0_9 {M : Mk} (h : (mY M).cls = RX0) (hi : (mY M).name = "<init>") : putOK M 9 0 0 := Or.inl ⟨⟨by rw [h]; exact (lw_all_mem (List.mem_append_right _ (List.mem_of_getElem? (i := 217) (by decide +kernel))) (by decide +kernel)), by decide⟩, Or.inr ⟨by decide, hi, by rw [h]; decide⟩⟩
theorem pfX10_15 {M : Mk} (h : (mY M).cls = RX10) (hi : (mY M).name = "<init>") : putOK M 15 10 1 := Or.inl ⟨⟨by rw [h]; exact (lw_all_mem (List.mem_append_right _ (List.mem_of_getElem? (i := 176) (by decide +kernel))) (by decide +kernel)), by decide⟩, Or.inr ⟨by decide, hi, by rw [h]; decide⟩⟩
theorem pfX10_19 {M : Mk} (h : (mY M).cls = RX10) (hi : (mY M).name = "<init>") : putOK M 19 10 2 := Or.inl ⟨⟨by rw [h]; exact (lw_all_mem (List.mem_append_right _ (List.mem_of_getElem? (i := 177) (by decide +kernel))) (by decide +kernel)), by decide⟩, Or.inr ⟨by decide, hi, by rw [h]; decide⟩⟩
theorem pfX10_26 {M : Mk} (h : (mY M).cls = RX10) (hi : (mY M).name = "<init>") : putOK M 26 10 3 := Or.inl ⟨⟨by rw [h]; exact (lw_all_mem (List.mem_append_right _ (List.mem_of_getElem? (i := 178) (by decide +kernel))) (by decide +kernel)), by decide⟩, Or.inr ⟨by decide, hi, by rw [h]; decide⟩⟩
theorem pfX10_9 {M : Mk} (h : (mY M).cls = RX10) (hi : (mY M).name = "<init>") : putOK M 9 10 0 := Or.inl ⟨⟨by rw [h]; exact (lw_all_mem (List.mem_append_right _ (List.mem_of_getElem? (i := 175) (by decide +kernel))) (by decide +kernel)), by decide⟩, Or.inr ⟨by decide, hi, by rw [h]; decide⟩⟩
theorem pfX11_10 {M : Mk} (h : (mY M).cls = RX11) (hi : (mY M).name = "<init>") : putOK M 10 11 0 := Or.inl ⟨⟨by rw [h]; exact (lw_all_mem (List.mem_append_right _ (List.mem_of_getElem? (i := 364) (by decide +kernel))) (by decide +kernel)), by decide⟩, Or.inr ⟨by decide, hi, by rw [h]; decide⟩⟩
theorem pfX11_105 {M : Mk} (h : (mY M).cls = RX11) (hi : (mY M).name = "<init>") : putOK M 105 11 15 := Or.inl ⟨⟨by rw [h]; exact (lw_all_mem (List.mem_append_right _ (List.mem_of_getElem? (i := 379) (by decide +kernel))) (by decide +kernel)), by decide⟩, Or.inr ⟨by decide, hi, by rw [h]; decide⟩⟩
theorem pfX11_21 {M : Mk} (h : (mY M).cls = RX11) (hi : (mY M).name = "<init>") : putOK M 21 11 1 := Or.inl ⟨⟨by rw [h]; exact (lw_all_mem (List.mem_append_right _ (List.mem_of_getElem? (i := 365) (by decide +kernel))) (by decide +kernel)), by decide⟩, Or.inr ⟨by decide, hi, by rw [h]; decide⟩⟩
theorem pfX11_28 {M : Mk} (h : (mY M).cls = RX11) (hi : (mY M).name = "<init>") : putOK M 28 11 2 := Or.inl ⟨⟨by rw [h]; exact (lw_all_mem (List.mem_append_right _ (List.mem_of_getElem? (i := 366) (by decide +kernel))) (by decide +kernel)), by decide⟩, Or.inr ⟨by decide, hi, by rw [h]; decide⟩⟩
theorem pfX11_32 {M : Mk} (h : (mY M).cls = RX11) (hi : (mY M).name = "<init>") : putOK M 32 11 3 := Or.inl ⟨⟨by rw [h]; exact (lw_all_mem (List.mem_append_right _ (List.mem_of_getElem? (i := 367) (by decide +kernel))) (by decide +kernel)), by decide⟩, Or.inr ⟨by decide, hi, by rw [h]; decide⟩⟩
theorem pfX11_38 {M : Mk} (h : (mY M).cls = RX11) (hi : (mY M).name = "<init>") : putOK M 38 11 4 := Or.inl ⟨⟨by rw [h]; exact (lw_all_mem (List.mem_append_right _ (List.mem_of_getElem? (i := 368) (by decide +kernel))) (by decide +kernel)), by decide⟩, Or.inr ⟨by decide, hi, by rw [h]; decide⟩⟩
theorem pfX11_42 {M : Mk} (h : (mY M).cls = RX11) (hi : (mY M).name = "<init>") : putOK M 42 11 5 := Or.inl ⟨⟨by rw [h]; exact (lw_all_mem (List.mem_append_right _ (List.mem_of_getElem? (i := 369) (by decide +kernel))) (by decide +kernel)), by decide⟩, Or.inr ⟨by decide, hi, by rw [h]; decide⟩⟩
theorem pfX11_45 {M : Mk} (h : (mY M).cls = RX11) (hi : (mY M).name = "<init>") : putOK M 45 11 6 := Or.inl ⟨⟨by rw [h]; exact (lw_all_mem (List.mem_append_right _ (List.mem_of_getElem? (i := 370) (by decide +kernel))) (by decide +kernel)), by decide⟩, Or.inr ⟨by decide, hi, by rw [h]; decide⟩⟩
theorem pfX11_53 {M : Mk} (h : (mY M).cls = RX11) (hi : (mY M).name = "<init>") : putOK M 53 11 7 := Or.inl ⟨⟨by rw [h]; exact (lw_all_mem (List.mem_append_right _ (List.mem_of_getElem? (i := 371) (by decide +kernel))) (by decide +kernel)), by decide⟩, Or.inr ⟨by decide, hi, by rw [h]; decide⟩⟩
theorem pfX11_57 {M : Mk} (h : (mY M).cls = RX11) (hi : (mY M).name = "<init>") : putOK M 57 11 8 := Or.inl ⟨⟨by rw [h]; exact (lw_all_mem (List.mem_append_right _ (List.mem_of_getElem? (i := 372) (by decide +kernel))) (by decide +kernel)), by decide⟩, Or.inr ⟨by decide, hi, by rw [h]; decide⟩⟩
theorem pfX11_65 {M : Mk} (h : (mY M).cls = RX11) (hi : (mY M).name = "<init>") : putOK M 65 11 9 := Or.inl ⟨⟨by rw [h]; exact (lw_all_mem (List.mem_append_right _ (List.mem_of_getElem? (i := 373) (by decide +kernel))) (by decide +kernel)), by decide⟩, Or.inr ⟨by decide, hi, by rw [h]; decide⟩⟩
theorem pfX11_72 {M : Mk} (h : (mY M).cls = RX11) (hi : (mY M).name = "<init>") : putOK M 72 11 10 := Or.inl ⟨⟨by rw [h]; exact (lw_all_mem (List.mem_append_right _ (List.mem_of_getElem? (i := 374) (by decide +kernel))) (by decide +kernel)), by decide⟩, Or.inr ⟨by decide, hi, by rw [h]; decide⟩⟩
theorem pfX11_79 {M : Mk} (h : (mY M).cls = RX11) (hi : (mY M).name = "<init>") : putOK M 79 11 11 := Or.inl ⟨⟨by rw [h]; exact (lw_all_mem (List.mem_append_right _ (List.mem_of_getElem? (i := 375) (by decide +kernel))) (by decide +kernel)), by decide⟩, Or.inr ⟨by decide, hi, by rw [h]; decide⟩⟩
theorem pfX11_83 {M : Mk} (h : (mY M).cls = RX11) (hi : (mY M).name = "<init>") : putOK M 83 11 12 := Or.inl ⟨⟨by rw [h]; exact (lw_all_mem (List.mem_append_right _ (List.mem_of_getElem? (i := 376) (by decide +kernel))) (by decide +kernel)), by decide⟩, Or.inr ⟨by decide, hi, by rw [h]; decide⟩⟩
theorem pfX11_89 {M : Mk} (h : (mY M).cls = RX11) (hi : (mY M).name = "<init>") : putOK M 89 11 13 := Or.inl ⟨⟨by rw [h]; exact (lw_all_mem (List.mem_append_right _ (List.mem_of_getElem? (i := 377) (by decide +kernel))) (by decide +kernel)), by decide⟩, Or.inr ⟨by decide, hi, by rw [h]; decide⟩⟩
theorem pfX11_98 {M : Mk} (h : (mY M).cls = RX11) (hi : (mY M).name = "<init>") : putOK M 98 11 14 := Or.inl ⟨⟨by rw [h]; exact (lw_all_mem (List.mem_append_right _ (List.mem_of_getElem? (i := 378) (by decide +kernel))) (by decide +kernel)), by decide⟩, Or.inr ⟨by decide, hi, by rw [h]; decide⟩⟩
theorem pfX1_15 {M : Mk} (h : (mY M).cls = RX1) (hi : (mY M).name = "<init>") : putOK M 15 1 0 := Or.inl ⟨⟨by rw [h]; exact (lw_all_mem (List.mem_append_right _ (List.mem_of_getElem? (i := 158) (by decide +kernel))) (by decide +kernel)), by decide⟩, Or.inr ⟨by decide, hi, by rw [h]; decide⟩⟩
theorem pfX2_15 {M : Mk} (h : (mY M).cls = RX2) (hi : (mY M).name = "<init>") : putOK M 15 2 1 := Or.inl ⟨⟨by rw [h]; exact (lw_all_mem (List.mem_append_right _ (List.mem_of_getElem? (i := 288) (by decide +kernel))) (by decide +kernel)), by decide⟩, Or.inr ⟨by decide, hi, by rw [h]; decide⟩⟩
theorem pfX2_19 {M : Mk} (h : (mY M).cls = RX2) (hi : (mY M).name = "<init>") : putOK M 19 2 2 := Or.inl ⟨⟨by rw [h]; exact (lw_all_mem (List.mem_append_right _ (List.mem_of_getElem? (i := 289) (by decide +kernel))) (by decide +kernel)), by decide⟩, Or.inr ⟨by decide, hi, by rw [h]; decide⟩⟩
theorem pfX2_23 {M : Mk} (h : (mY M).cls = RX2) (hi : (mY M).name = "<init>") : putOK M 23 2 3 := Or.inl ⟨⟨by rw [h]; exact (lw_all_mem (List.mem_append_right _ (List.mem_of_getElem? (i := 290) (by decide +kernel))) (by decide +kernel)), by decide⟩, Or.inr ⟨by decide, hi, by rw [h]; decide⟩⟩
theorem pfX2_26 {M : Mk} (h : (mY M).cls = RX2) (hi : (mY M).name = "<init>") : putOK M 26 2 4 := Or.inl ⟨⟨by rw [h]; exact (lw_all_mem (List.mem_append_right _ (List.mem_of_getElem? (i := 291) (by decide +kernel))) (by decide +kernel)), by decide⟩, Or.inr ⟨by decide, hi, by rw [h]; decide⟩⟩
theorem pfX2_9 {M : Mk} (h : (mY M).cls = RX2) (hi : (mY M).name = "<init>") : putOK M 9 2 0 := Or.inl ⟨⟨by rw [h]; exact (lw_all_mem (List.mem_append_right _ (List.mem_of_getElem? (i := 287) (by decide +kernel))) (by decide +kernel)), by decide⟩, Or.inr ⟨by decide, hi, by rw [h]; decide⟩⟩
theorem pfX3_15 {M : Mk} (h : (mY M).cls = RX3) (hi : (mY M).name = "<init>") : putOK M 15 3 1 := Or.inl ⟨⟨by rw [h]; exact (lw_all_mem (List.mem_append_right _ (List.mem_of_getElem? (i := 313) (by decide +kernel))) (by decide +kernel)), by decide⟩, Or.inr ⟨by decide, hi, by rw [h]; decide⟩⟩
theorem pfX3_19 {M : Mk} (h : (mY M).cls = RX3) (hi : (mY M).name = "<init>") : putOK M 19 3 2 := Or.inl ⟨⟨by rw [h]; exact (lw_all_mem (List.mem_append_right _ (List.mem_of_getElem? (i := 314) (by decide +kernel))) (by decide +kernel)), by decide⟩, Or.inr ⟨by decide, hi, by rw [h]; decide⟩⟩
theorem pfX3_9 {M : Mk} (h : (mY M).cls = RX3) (hi : (mY M).name = "<init>") : putOK M 9 3 0 := Or.inl ⟨⟨by rw [h]; exact (lw_all_mem (List.mem_append_right _ (List.mem_of_getElem? (i := 312) (by decide +kernel))) (by decide +kernel)), by decide⟩, Or.inr ⟨by decide, hi, by rw [h]; decide⟩⟩
theorem pfX4_15 {M : Mk} (h : (mY M).cls = RX4) (hi : (mY M).name = "<init>") : putOK M 15 4 1 := Or.inl ⟨⟨by rw [h]; exact (lw_all_mem (List.mem_append_right _ (List.mem_of_getElem? (i := 269) (by decide +kernel))) (by decide +kernel)), by decide⟩, Or.inr ⟨by decide, hi, by rw [h]; decide⟩⟩
theorem pfX4_19 {M : Mk} (h : (mY M).cls = RX4) (hi : (mY M).name = "<init>") : putOK M 19 4 2 := Or.inl ⟨⟨by rw [h]; exact (lw_all_mem (List.mem_append_right _ (List.mem_of_getElem? (i := 270) (by decide +kernel))) (by decide +kernel)), by decide⟩, Or.inr ⟨by decide, hi, by rw [h]; decide⟩⟩
theorem pfX4_9 {M : Mk} (h : (mY M).cls = RX4) (hi : (mY M).name = "<init>") : putOK M 9 4 0 := Or.inl ⟨⟨by rw [h]; exact (lw_all_mem (List.mem_append_right _ (List.mem_of_getElem? (i := 268) (by decide +kernel))) (by decide +kernel)), by decide⟩, Or.inr ⟨by decide, hi, by rw [h]; decide⟩⟩
theorem pfX5_15 {M : Mk} (h : (mY M).cls = RX5) (hi : (mY M).name = "<init>") : putOK M 15 5 1 := Or.inl ⟨⟨by rw [h]; exact (lw_all_mem (List.mem_append_right _ (List.mem_of_getElem? (i := 44) (by decide +kernel))) (by decide +kernel)), by decide⟩, Or.inr ⟨by decide, hi, by rw [h]; decide⟩⟩
theorem pfX5_18 {M : Mk} (h : (mY M).cls = RX5) (hi : (mY M).name = "<init>") : putOK M 18 5 2 := Or.inl ⟨⟨by rw [h]; exact (lw_all_mem (List.mem_append_right _ (List.mem_of_getElem? (i := 45) (by decide +kernel))) (by decide +kernel)), by decide⟩, Or.inr ⟨by decide, hi, by rw [h]; decide⟩⟩
theorem pfX5_9 {M : Mk} (h : (mY M).cls = RX5) (hi : (mY M).name = "<init>") : putOK M 9 5 0 := Or.inl ⟨⟨by rw [h]; exact (lw_all_mem (List.mem_append_right _ (List.mem_of_getElem? (i := 43) (by decide +kernel))) (by decide +kernel)), by decide⟩, Or.inr ⟨by decide, hi, by rw [h]; decide⟩⟩
theorem pfX6_11 {M : Mk} (h : (mY M).cls = RX6) (hi : (mY M).name = "<init>") : putOK M 11 6 0 := Or.inl ⟨⟨by rw [h]; exact (lw_all_mem (List.mem_append_right _ (List.mem_of_getElem? (i := 138) (by decide +kernel))) (by decide +kernel)), by decide⟩, Or.inr ⟨by decide, hi, by rw [h]; decide⟩⟩
theorem pfX7_15 {M : Mk} (h : (mY M).cls = RX7) (hi : (mY M).name = "<init>") : putOK M 15 7 1 := Or.inl ⟨⟨by rw [h]; exact (lw_all_mem (List.mem_append_right _ (List.mem_of_getElem? (i := 74) (by decide +kernel))) (by decide +kernel)), by decide⟩, Or.inr ⟨by decide, hi, by rw [h]; decide⟩⟩
theorem pfX7_19 {M : Mk} (h : (mY M).cls = RX7) (hi : (mY M).name = "<init>") : putOK M 19 7 2 := Or.inl ⟨⟨by rw [h]; exact (lw_all_mem (List.mem_append_right _ (List.mem_of_getElem? (i := 75) (by decide +kernel))) (by decide +kernel)), by decide⟩, Or.inr ⟨by decide, hi, by rw [h]; decide⟩⟩
theorem pfX7_22 {M : Mk} (h : (mY M).cls = RX7) (hi : (mY M).name = "<init>") : putOK M 22 7 3 := Or.inl ⟨⟨by rw [h]; exact (lw_all_mem (List.mem_append_right _ (List.mem_of_getElem? (i := 76) (by decide +kernel))) (by decide +kernel)), by decide⟩, Or.inr ⟨by decide, hi, by rw [h]; decide⟩⟩
theorem pfX7_25 {M : Mk} (h : (mY M).cls = RX7) (hi : (mY M).name = "<init>") : putOK M 25 7 4 := Or.inl ⟨⟨by rw [h]; exact (lw_all_mem (List.mem_append_right _ (List.mem_of_getElem? (i := 77) (by decide +kernel))) (by decide +kernel)), by decide⟩, Or.inr ⟨by decide, hi, by rw [h]; decide⟩⟩
theorem pfX7_9 {M : Mk} (h : (mY M).cls = RX7) (hi : (mY M).name = "<init>") : putOK M 9 7 0 := Or.inl ⟨⟨by rw [h]; exact (lw_all_mem (List.mem_append_right _ (List.mem_of_getElem? (i := 73) (by decide +kernel))) (by decide +kernel)), by decide⟩, Or.inr ⟨by decide, hi, by rw [h]; decide⟩⟩
theorem pfX8_15 {M : Mk} (h : (mY M).cls = RX8) (hi : (mY M).name = "<init>") : putOK M 15 8 1 := Or.inl ⟨⟨by rw [h]; exact (lw_all_mem (List.mem_append_right _ (List.mem_of_getElem? (i := 250) (by decide +kernel))) (by decide +kernel)), by decide⟩, Or.inr ⟨by decide, hi, by rw [h]; decide⟩⟩
theorem pfX8_19 {M : Mk} (h : (mY M).cls = RX8) (hi : (mY M).name = "<init>") : putOK M 19 8 2 := Or.inl ⟨⟨by rw [h]; exact (lw_all_mem (List.mem_append_right _ (List.mem_of_getElem? (i := 251) (by decide +kernel))) (by decide +kernel)), by decide⟩, Or.inr ⟨by decide, hi, by rw [h]; decide⟩⟩
theorem pfX8_22 {M : Mk} (h : (mY M).cls = RX8) (hi : (mY M).name = "<init>") : putOK M 22 8 3 := Or.inl ⟨⟨by rw [h]; exact (lw_all_mem (List.mem_append_right _ (List.mem_of_getElem? (i := 252) (by decide +kernel))) (by decide +kernel)), by decide⟩, Or.inr ⟨by decide, hi, by rw [h]; decide⟩⟩
theorem pfX8_9 {M : Mk} (h : (mY M).cls = RX8) (hi : (mY M).name = "<init>") : putOK M 9 8 0 := Or.inl ⟨⟨by rw [h]; exact (lw_all_mem (List.mem_append_right _ (List.mem_of_getElem? (i := 249) (by decide +kernel))) (by decide +kernel)), by decide⟩, Or.inr ⟨by decide, hi, by rw [h]; decide⟩⟩
theorem pfX9_15 {M : Mk} (h : (mY M).cls = RX9) (hi : (mY M).name = "<init>") : putOK M 15 9 1 := Or.inl ⟨⟨by rw [h]; exact (lw_all_mem (List.mem_append_right _ (List.mem_of_getElem? (i := 100) (by decide +kernel))) (by decide +kernel)), by decide⟩, Or.inr ⟨by decide, hi, by rw [h]; decide⟩⟩
theorem pfX9_9 {M : Mk} (h : (mY M).cls = RX9) (hi : (mY M).name = "<init>") : putOK M 9 9 0 := Or.inl ⟨⟨by rw [h]; exact (lw_all_mem (List.mem_append_right _ (List.mem_of_getElem? (i := 98) (by decide +kernel))) (by decide +kernel)), by decide⟩, Or.inr ⟨by decide, hi, by rw [h]; decide⟩⟩
set_option maxRecDepth 100000 in
theorem i_1 {C : Cx} (Rb : Nat → Nat → Option Nat) (L : List (Nat × Nat × Nat)) (s : Sg) : mm C M_X5_init 1 3 648 2 5 [.ref 1] (hcb Rb L s) (fun v h => v = none ∧ h = hcb Rb ((1, 2, 4) :: (1, 1, 3) :: (1, 0, 2) :: L) s) XF := by
  refine mm_of rfl rfl (Nat.le_of_ble_eq_true rfl) ?_
  show ww C M_X5_init 1 3 648 5 _ XF 2 0 0 0 [(0, .ref 1)] [] (hcb Rb L s)
  refine w_aload_n 0 dX5_init_0 rfl rfl ?_
  refine c_obj dX5_init_1 (obX5_3 rfl) (Nat.le_of_ble_eq_true rfl) (Nat.le_of_ble_eq_true rfl) ?_
  refine w_aload_n 0 dX5_init_4 rfl rfl ?_
  refine x_sipush dX5_init_5 (by decide) ?_
  refine c_newarr (nx' := 3) (k' := 1) (n' := 486) .int 486 rfl (Nat.le_of_ble_eq_true rfl) dX5_init_8 rfl (shp_C rfl) (Or.inl rfl) na_int (Nat.le_of_ble_eq_true rfl) (Nat.le_of_ble_eq_true rfl) rfl rfl rfl ?_
  refine c_putR 5 0 dX5_init_10 (pfX5_9 rfl rfl) rfl rfl (Nat.le_of_ble_eq_true rfl) ?_
  refine w_aload_n 0 dX5_init_13 rfl rfl ?_
  refine x_bipush dX5_init_14 (by decide) ?_
  refine c_newarr (nx' := 4) (k' := 2) (n' := 567) .int 81 rfl (Nat.le_of_ble_eq_true rfl) dX5_init_16 rfl (shp_C rfl) (Or.inl rfl) na_int (Nat.le_of_ble_eq_true rfl) (Nat.le_of_ble_eq_true rfl) rfl rfl rfl ?_
  refine c_putR 5 1 dX5_init_18 (pfX5_15 rfl rfl) rfl rfl (Nat.le_of_ble_eq_true rfl) ?_
  refine w_aload_n 0 dX5_init_21 rfl rfl ?_
  refine x_bipush dX5_init_22 (by decide) ?_
  refine c_newarr (nx' := 5) (k' := 3) (n' := 648) .int 81 rfl (Nat.le_of_ble_eq_true rfl) dX5_init_24 rfl (shp_C rfl) (Or.inl rfl) na_int (Nat.le_of_ble_eq_true rfl) (Nat.le_of_ble_eq_true rfl) rfl rfl rfl ?_
  refine c_putR 5 2 dX5_init_26 (pfX5_18 rfl rfl) rfl rfl (Nat.le_of_ble_eq_true rfl) ?_
  exact w_return rfl dX5_init_29 rfl (Nat.le_of_ble_eq_true rfl) (Nat.le_of_ble_eq_true rfl) ⟨rfl, rfl⟩
set_option maxRecDepth 100000 in
theorem i_5 {C : Cx} (Rb : Nat → Nat → Option Nat) (L : List (Nat × Nat × Nat)) (s : Sg) : mm C M_X7_init 1 4 324 6 10 [.ref 5, .ref 1] (hcb Rb L s) (fun v h => v = none ∧ h = hcb Rb ((5, 4, 9) :: (5, 3, 8) :: (5, 2, 7) :: (5, 1, 6) :: (5, 0, 1) :: L) s) XF := by
  refine mm_of rfl rfl (Nat.le_of_ble_eq_true rfl) ?_
  show ww C M_X7_init 1 4 324 10 _ XF 6 0 0 0 [(0, .ref 5), (1, .ref 1)] [] (hcb Rb L s)
  refine w_aload_n 0 dX7_init_0 rfl rfl ?_
  refine c_obj dX7_init_1 (obX7_3 rfl) (Nat.le_of_ble_eq_true rfl) (Nat.le_of_ble_eq_true rfl) ?_
  refine w_aload_n 0 dX7_init_4 rfl rfl ?_
  refine w_aload_n 1 dX7_init_5 rfl rfl ?_
  refine c_putR 7 0 dX7_init_6 (pfX7_9 rfl rfl) rfl rfl (Nat.le_of_ble_eq_true rfl) ?_
  refine w_aload_n 0 dX7_init_9 rfl rfl ?_
  refine x_bipush dX7_init_10 (by decide) ?_
  refine c_newarr (nx' := 7) (k' := 1) (n' := 81) .int 81 rfl (Nat.le_of_ble_eq_true rfl) dX7_init_12 rfl (shp_C rfl) (Or.inl rfl) na_int (Nat.le_of_ble_eq_true rfl) (Nat.le_of_ble_eq_true rfl) rfl rfl rfl ?_
  refine c_putR 7 1 dX7_init_14 (pfX7_15 rfl rfl) rfl rfl (Nat.le_of_ble_eq_true rfl) ?_
  refine w_aload_n 0 dX7_init_17 rfl rfl ?_
  refine x_bipush dX7_init_18 (by decide) ?_
  refine c_newarr (nx' := 8) (k' := 2) (n' := 162) .int 81 rfl (Nat.le_of_ble_eq_true rfl) dX7_init_20 rfl (shp_C rfl) (Or.inl rfl) na_int (Nat.le_of_ble_eq_true rfl) (Nat.le_of_ble_eq_true rfl) rfl rfl rfl ?_
  refine c_putR 7 2 dX7_init_22 (pfX7_19 rfl rfl) rfl rfl (Nat.le_of_ble_eq_true rfl) ?_
  refine w_aload_n 0 dX7_init_25 rfl rfl ?_
  refine x_bipush dX7_init_26 (by decide) ?_
  refine c_newarr (nx' := 9) (k' := 3) (n' := 243) .int 81 rfl (Nat.le_of_ble_eq_true rfl) dX7_init_28 rfl (shp_C rfl) (Or.inl rfl) na_int (Nat.le_of_ble_eq_true rfl) (Nat.le_of_ble_eq_true rfl) rfl rfl rfl ?_
  refine c_putR 7 3 dX7_init_30 (pfX7_22 rfl rfl) rfl rfl (Nat.le_of_ble_eq_true rfl) ?_
  refine w_aload_n 0 dX7_init_33 rfl rfl ?_
  refine x_bipush dX7_init_34 (by decide) ?_
  refine c_newarr (nx' := 10) (k' := 4) (n' := 324) .int 81 rfl (Nat.le_of_ble_eq_true rfl) dX7_init_36 rfl (shp_C rfl) (Or.inl rfl) na_int (Nat.le_of_ble_eq_true rfl) (Nat.le_of_ble_eq_true rfl) rfl rfl rfl ?_
  refine c_putR 7 4 dX7_init_38 (pfX7_25 rfl rfl) rfl rfl (Nat.le_of_ble_eq_true rfl) ?_
  exact w_return rfl dX7_init_41 rfl (Nat.le_of_ble_eq_true rfl) (Nat.le_of_ble_eq_true rfl) ⟨rfl, rfl⟩
set_option maxRecDepth 100000 in
theorem i_10 {C : Cx} (Rb : Nat → Nat → Option Nat) (L : List (Nat × Nat × Nat)) (s : Sg) : mm C M_X9_init 1 2 281 11 13 [.ref 10] (hcb Rb L s) (fun v h => v = none ∧ h = hcb Rb ((10, 1, 12) :: (10, 0, 11) :: L) s) XF := by
  refine mm_of rfl rfl (Nat.le_of_ble_eq_true rfl) ?_
  show ww C M_X9_init 1 2 281 13 _ XF 11 0 0 0 [(0, .ref 10)] [] (hcb Rb L s)
  refine w_aload_n 0 dX9_init_0 rfl rfl ?_
  refine c_obj dX9_init_1 (obX9_3 rfl) (Nat.le_of_ble_eq_true rfl) (Nat.le_of_ble_eq_true rfl) ?_
  refine w_aload_n 0 dX9_init_4 rfl rfl ?_
  refine x_bipush dX9_init_5 (by decide) ?_
  refine c_newarr (nx' := 12) (k' := 1) (n' := 81) .int 81 rfl (Nat.le_of_ble_eq_true rfl) dX9_init_7 rfl (shp_C rfl) (Or.inl rfl) na_int (Nat.le_of_ble_eq_true rfl) (Nat.le_of_ble_eq_true rfl) rfl rfl rfl ?_
  refine c_putR 9 0 dX9_init_9 (pfX9_9 rfl rfl) rfl rfl (Nat.le_of_ble_eq_true rfl) ?_
  refine w_aload_n 0 dX9_init_12 rfl rfl ?_
  refine x_sipush dX9_init_13 (by decide) ?_
  refine c_newarr (nx' := 13) (k' := 2) (n' := 281) .int 200 rfl (Nat.le_of_ble_eq_true rfl) dX9_init_16 rfl (shp_C rfl) (Or.inl rfl) na_int (Nat.le_of_ble_eq_true rfl) (Nat.le_of_ble_eq_true rfl) rfl rfl rfl ?_
  refine c_putR 9 1 dX9_init_18 (pfX9_15 rfl rfl) rfl rfl (Nat.le_of_ble_eq_true rfl) ?_
  exact w_return rfl dX9_init_21 rfl (Nat.le_of_ble_eq_true rfl) (Nat.le_of_ble_eq_true rfl) ⟨rfl, rfl⟩
set_option maxRecDepth 100000 in
theorem i_13 {C : Cx} (Rb : Nat → Nat → Option Nat) (L : List (Nat × Nat × Nat)) (s : Sg) : mm C M_X9_init 1 2 281 14 16 [.ref 13] (hcb Rb L s) (fun v h => v = none ∧ h = hcb Rb ((13, 1, 15) :: (13, 0, 14) :: L) s) XF := by
  refine mm_of rfl rfl (Nat.le_of_ble_eq_true rfl) ?_
  show ww C M_X9_init 1 2 281 16 _ XF 14 0 0 0 [(0, .ref 13)] [] (hcb Rb L s)
  refine w_aload_n 0 dX9_init_0 rfl rfl ?_
  refine c_obj dX9_init_1 (obX9_3 rfl) (Nat.le_of_ble_eq_true rfl) (Nat.le_of_ble_eq_true rfl) ?_
  refine w_aload_n 0 dX9_init_4 rfl rfl ?_
  refine x_bipush dX9_init_5 (by decide) ?_
  refine c_newarr (nx' := 15) (k' := 1) (n' := 81) .int 81 rfl (Nat.le_of_ble_eq_true rfl) dX9_init_7 rfl (shp_C rfl) (Or.inl rfl) na_int (Nat.le_of_ble_eq_true rfl) (Nat.le_of_ble_eq_true rfl) rfl rfl rfl ?_
  refine c_putR 9 0 dX9_init_9 (pfX9_9 rfl rfl) rfl rfl (Nat.le_of_ble_eq_true rfl) ?_
  refine w_aload_n 0 dX9_init_12 rfl rfl ?_
  refine x_sipush dX9_init_13 (by decide) ?_
  refine c_newarr (nx' := 16) (k' := 2) (n' := 281) .int 200 rfl (Nat.le_of_ble_eq_true rfl) dX9_init_16 rfl (shp_C rfl) (Or.inl rfl) na_int (Nat.le_of_ble_eq_true rfl) (Nat.le_of_ble_eq_true rfl) rfl rfl rfl ?_
  refine c_putR 9 1 dX9_init_18 (pfX9_15 rfl rfl) rfl rfl (Nat.le_of_ble_eq_true rfl) ?_
  exact w_return rfl dX9_init_21 rfl (Nat.le_of_ble_eq_true rfl) (Nat.le_of_ble_eq_true rfl) ⟨rfl, rfl⟩
set_option maxRecDepth 100000 in
theorem i_18 {C : Cx} (Rb : Nat → Nat → Option Nat) (L : List (Nat × Nat × Nat)) (s : Sg) : mm C M_X9_init 1 2 281 19 21 [.ref 18] (hcb Rb L s) (fun v h => v = none ∧ h = hcb Rb ((18, 1, 20) :: (18, 0, 19) :: L) s) XF := by
  refine mm_of rfl rfl (Nat.le_of_ble_eq_true rfl) ?_
  show ww C M_X9_init 1 2 281 21 _ XF 19 0 0 0 [(0, .ref 18)] [] (hcb Rb L s)
  refine w_aload_n 0 dX9_init_0 rfl rfl ?_
  refine c_obj dX9_init_1 (obX9_3 rfl) (Nat.le_of_ble_eq_true rfl) (Nat.le_of_ble_eq_true rfl) ?_
  refine w_aload_n 0 dX9_init_4 rfl rfl ?_
  refine x_bipush dX9_init_5 (by decide) ?_
  refine c_newarr (nx' := 20) (k' := 1) (n' := 81) .int 81 rfl (Nat.le_of_ble_eq_true rfl) dX9_init_7 rfl (shp_C rfl) (Or.inl rfl) na_int (Nat.le_of_ble_eq_true rfl) (Nat.le_of_ble_eq_true rfl) rfl rfl rfl ?_
  refine c_putR 9 0 dX9_init_9 (pfX9_9 rfl rfl) rfl rfl (Nat.le_of_ble_eq_true rfl) ?_
  refine w_aload_n 0 dX9_init_12 rfl rfl ?_
  refine x_sipush dX9_init_13 (by decide) ?_
  refine c_newarr (nx' := 21) (k' := 2) (n' := 281) .int 200 rfl (Nat.le_of_ble_eq_true rfl) dX9_init_16 rfl (shp_C rfl) (Or.inl rfl) na_int (Nat.le_of_ble_eq_true rfl) (Nat.le_of_ble_eq_true rfl) rfl rfl rfl ?_
  refine c_putR 9 1 dX9_init_18 (pfX9_15 rfl rfl) rfl rfl (Nat.le_of_ble_eq_true rfl) ?_
  exact w_return rfl dX9_init_21 rfl (Nat.le_of_ble_eq_true rfl) (Nat.le_of_ble_eq_true rfl) ⟨rfl, rfl⟩
set_option maxRecDepth 100000 in
theorem i_21 {C : Cx} (Rb : Nat → Nat → Option Nat) (L : List (Nat × Nat × Nat)) (s : Sg) : mm C M_X9_init 1 2 281 22 24 [.ref 21] (hcb Rb L s) (fun v h => v = none ∧ h = hcb Rb ((21, 1, 23) :: (21, 0, 22) :: L) s) XF := by
  refine mm_of rfl rfl (Nat.le_of_ble_eq_true rfl) ?_
  show ww C M_X9_init 1 2 281 24 _ XF 22 0 0 0 [(0, .ref 21)] [] (hcb Rb L s)
  refine w_aload_n 0 dX9_init_0 rfl rfl ?_
  refine c_obj dX9_init_1 (obX9_3 rfl) (Nat.le_of_ble_eq_true rfl) (Nat.le_of_ble_eq_true rfl) ?_
  refine w_aload_n 0 dX9_init_4 rfl rfl ?_
  refine x_bipush dX9_init_5 (by decide) ?_
  refine c_newarr (nx' := 23) (k' := 1) (n' := 81) .int 81 rfl (Nat.le_of_ble_eq_true rfl) dX9_init_7 rfl (shp_C rfl) (Or.inl rfl) na_int (Nat.le_of_ble_eq_true rfl) (Nat.le_of_ble_eq_true rfl) rfl rfl rfl ?_
  refine c_putR 9 0 dX9_init_9 (pfX9_9 rfl rfl) rfl rfl (Nat.le_of_ble_eq_true rfl) ?_
  refine w_aload_n 0 dX9_init_12 rfl rfl ?_
  refine x_sipush dX9_init_13 (by decide) ?_
  refine c_newarr (nx' := 24) (k' := 2) (n' := 281) .int 200 rfl (Nat.le_of_ble_eq_true rfl) dX9_init_16 rfl (shp_C rfl) (Or.inl rfl) na_int (Nat.le_of_ble_eq_true rfl) (Nat.le_of_ble_eq_true rfl) rfl rfl rfl ?_
  refine c_putR 9 1 dX9_init_18 (pfX9_15 rfl rfl) rfl rfl (Nat.le_of_ble_eq_true rfl) ?_
  exact w_return rfl dX9_init_21 rfl (Nat.le_of_ble_eq_true rfl) (Nat.le_of_ble_eq_true rfl) ⟨rfl, rfl⟩
set_option maxRecDepth 100000 in
theorem i_24 {C : Cx} (Rb : Nat → Nat → Option Nat) (L : List (Nat × Nat × Nat)) (s : Sg) : mm C M_X9_init 1 2 281 25 27 [.ref 24] (hcb Rb L s) (fun v h => v = none ∧ h = hcb Rb ((24, 1, 26) :: (24, 0, 25) :: L) s) XF := by
  refine mm_of rfl rfl (Nat.le_of_ble_eq_true rfl) ?_
  show ww C M_X9_init 1 2 281 27 _ XF 25 0 0 0 [(0, .ref 24)] [] (hcb Rb L s)
  refine w_aload_n 0 dX9_init_0 rfl rfl ?_
  refine c_obj dX9_init_1 (obX9_3 rfl) (Nat.le_of_ble_eq_true rfl) (Nat.le_of_ble_eq_true rfl) ?_
  refine w_aload_n 0 dX9_init_4 rfl rfl ?_
  refine x_bipush dX9_init_5 (by decide) ?_
  refine c_newarr (nx' := 26) (k' := 1) (n' := 81) .int 81 rfl (Nat.le_of_ble_eq_true rfl) dX9_init_7 rfl (shp_C rfl) (Or.inl rfl) na_int (Nat.le_of_ble_eq_true rfl) (Nat.le_of_ble_eq_true rfl) rfl rfl rfl ?_
  refine c_putR 9 0 dX9_init_9 (pfX9_9 rfl rfl) rfl rfl (Nat.le_of_ble_eq_true rfl) ?_
  refine w_aload_n 0 dX9_init_12 rfl rfl ?_
  refine x_sipush dX9_init_13 (by decide) ?_
  refine c_newarr (nx' := 27) (k' := 2) (n' := 281) .int 200 rfl (Nat.le_of_ble_eq_true rfl) dX9_init_16 rfl (shp_C rfl) (Or.inl rfl) na_int (Nat.le_of_ble_eq_true rfl) (Nat.le_of_ble_eq_true rfl) rfl rfl rfl ?_
  refine c_putR 9 1 dX9_init_18 (pfX9_15 rfl rfl) rfl rfl (Nat.le_of_ble_eq_true rfl) ?_
  exact w_return rfl dX9_init_21 rfl (Nat.le_of_ble_eq_true rfl) (Nat.le_of_ble_eq_true rfl) ⟨rfl, rfl⟩
set_option maxRecDepth 100000 in
theorem i_27 {C : Cx} (Rb : Nat → Nat → Option Nat) (L : List (Nat × Nat × Nat)) (s : Sg) : mm C M_X9_init 1 2 281 28 30 [.ref 27] (hcb Rb L s) (fun v h => v = none ∧ h = hcb Rb ((27, 1, 29) :: (27, 0, 28) :: L) s) XF := by
  refine mm_of rfl rfl (Nat.le_of_ble_eq_true rfl) ?_
  show ww C M_X9_init 1 2 281 30 _ XF 28 0 0 0 [(0, .ref 27)] [] (hcb Rb L s)
  refine w_aload_n 0 dX9_init_0 rfl rfl ?_
  refine c_obj dX9_init_1 (obX9_3 rfl) (Nat.le_of_ble_eq_true rfl) (Nat.le_of_ble_eq_true rfl) ?_
  refine w_aload_n 0 dX9_init_4 rfl rfl ?_
  refine x_bipush dX9_init_5 (by decide) ?_
  refine c_newarr (nx' := 29) (k' := 1) (n' := 81) .int 81 rfl (Nat.le_of_ble_eq_true rfl) dX9_init_7 rfl (shp_C rfl) (Or.inl rfl) na_int (Nat.le_of_ble_eq_true rfl) (Nat.le_of_ble_eq_true rfl) rfl rfl rfl ?_
  refine c_putR 9 0 dX9_init_9 (pfX9_9 rfl rfl) rfl rfl (Nat.le_of_ble_eq_true rfl) ?_
  refine w_aload_n 0 dX9_init_12 rfl rfl ?_
  refine x_sipush dX9_init_13 (by decide) ?_
  refine c_newarr (nx' := 30) (k' := 2) (n' := 281) .int 200 rfl (Nat.le_of_ble_eq_true rfl) dX9_init_16 rfl (shp_C rfl) (Or.inl rfl) na_int (Nat.le_of_ble_eq_true rfl) (Nat.le_of_ble_eq_true rfl) rfl rfl rfl ?_
  refine c_putR 9 1 dX9_init_18 (pfX9_15 rfl rfl) rfl rfl (Nat.le_of_ble_eq_true rfl) ?_
  exact w_return rfl dX9_init_21 rfl (Nat.le_of_ble_eq_true rfl) (Nat.le_of_ble_eq_true rfl) ⟨rfl, rfl⟩
set_option maxRecDepth 100000 in
theorem i_30 {C : Cx} (Rb : Nat → Nat → Option Nat) (L : List (Nat × Nat × Nat)) (s : Sg) : mm C M_X9_init 1 2 281 31 33 [.ref 30] (hcb Rb L s) (fun v h => v = none ∧ h = hcb Rb ((30, 1, 32) :: (30, 0, 31) :: L) s) XF := by
  refine mm_of rfl rfl (Nat.le_of_ble_eq_true rfl) ?_
  show ww C M_X9_init 1 2 281 33 _ XF 31 0 0 0 [(0, .ref 30)] [] (hcb Rb L s)
  refine w_aload_n 0 dX9_init_0 rfl rfl ?_
  refine c_obj dX9_init_1 (obX9_3 rfl) (Nat.le_of_ble_eq_true rfl) (Nat.le_of_ble_eq_true rfl) ?_
  refine w_aload_n 0 dX9_init_4 rfl rfl ?_
  refine x_bipush dX9_init_5 (by decide) ?_
  refine c_newarr (nx' := 32) (k' := 1) (n' := 81) .int 81 rfl (Nat.le_of_ble_eq_true rfl) dX9_init_7 rfl (shp_C rfl) (Or.inl rfl) na_int (Nat.le_of_ble_eq_true rfl) (Nat.le_of_ble_eq_true rfl) rfl rfl rfl ?_
  refine c_putR 9 0 dX9_init_9 (pfX9_9 rfl rfl) rfl rfl (Nat.le_of_ble_eq_true rfl) ?_
  refine w_aload_n 0 dX9_init_12 rfl rfl ?_
  refine x_sipush dX9_init_13 (by decide) ?_
  refine c_newarr (nx' := 33) (k' := 2) (n' := 281) .int 200 rfl (Nat.le_of_ble_eq_true rfl) dX9_init_16 rfl (shp_C rfl) (Or.inl rfl) na_int (Nat.le_of_ble_eq_true rfl) (Nat.le_of_ble_eq_true rfl) rfl rfl rfl ?_
  refine c_putR 9 1 dX9_init_18 (pfX9_15 rfl rfl) rfl rfl (Nat.le_of_ble_eq_true rfl) ?_
  exact w_return rfl dX9_init_21 rfl (Nat.le_of_ble_eq_true rfl) (Nat.le_of_ble_eq_true rfl) ⟨rfl, rfl⟩
set_option maxRecDepth 100000 in
theorem i_33 {C : Cx} (Rb : Nat → Nat → Option Nat) (L : List (Nat × Nat × Nat)) (s : Sg) : mm C M_X9_init 1 2 281 34 36 [.ref 33] (hcb Rb L s) (fun v h => v = none ∧ h = hcb Rb ((33, 1, 35) :: (33, 0, 34) :: L) s) XF := by
  refine mm_of rfl rfl (Nat.le_of_ble_eq_true rfl) ?_
  show ww C M_X9_init 1 2 281 36 _ XF 34 0 0 0 [(0, .ref 33)] [] (hcb Rb L s)
  refine w_aload_n 0 dX9_init_0 rfl rfl ?_
  refine c_obj dX9_init_1 (obX9_3 rfl) (Nat.le_of_ble_eq_true rfl) (Nat.le_of_ble_eq_true rfl) ?_
  refine w_aload_n 0 dX9_init_4 rfl rfl ?_
  refine x_bipush dX9_init_5 (by decide) ?_
  refine c_newarr (nx' := 35) (k' := 1) (n' := 81) .int 81 rfl (Nat.le_of_ble_eq_true rfl) dX9_init_7 rfl (shp_C rfl) (Or.inl rfl) na_int (Nat.le_of_ble_eq_true rfl) (Nat.le_of_ble_eq_true rfl) rfl rfl rfl ?_
  refine c_putR 9 0 dX9_init_9 (pfX9_9 rfl rfl) rfl rfl (Nat.le_of_ble_eq_true rfl) ?_
  refine w_aload_n 0 dX9_init_12 rfl rfl ?_
  refine x_sipush dX9_init_13 (by decide) ?_
  refine c_newarr (nx' := 36) (k' := 2) (n' := 281) .int 200 rfl (Nat.le_of_ble_eq_true rfl) dX9_init_16 rfl (shp_C rfl) (Or.inl rfl) na_int (Nat.le_of_ble_eq_true rfl) (Nat.le_of_ble_eq_true rfl) rfl rfl rfl ?_
  refine c_putR 9 1 dX9_init_18 (pfX9_15 rfl rfl) rfl rfl (Nat.le_of_ble_eq_true rfl) ?_
  exact w_return rfl dX9_init_21 rfl (Nat.le_of_ble_eq_true rfl) (Nat.le_of_ble_eq_true rfl) ⟨rfl, rfl⟩
set_option maxRecDepth 100000 in
theorem i_36 {C : Cx} (Rb : Nat → Nat → Option Nat) (L : List (Nat × Nat × Nat)) (s : Sg) : mm C M_X9_init 1 2 281 37 39 [.ref 36] (hcb Rb L s) (fun v h => v = none ∧ h = hcb Rb ((36, 1, 38) :: (36, 0, 37) :: L) s) XF := by
  refine mm_of rfl rfl (Nat.le_of_ble_eq_true rfl) ?_
  show ww C M_X9_init 1 2 281 39 _ XF 37 0 0 0 [(0, .ref 36)] [] (hcb Rb L s)
  refine w_aload_n 0 dX9_init_0 rfl rfl ?_
  refine c_obj dX9_init_1 (obX9_3 rfl) (Nat.le_of_ble_eq_true rfl) (Nat.le_of_ble_eq_true rfl) ?_
  refine w_aload_n 0 dX9_init_4 rfl rfl ?_
  refine x_bipush dX9_init_5 (by decide) ?_
  refine c_newarr (nx' := 38) (k' := 1) (n' := 81) .int 81 rfl (Nat.le_of_ble_eq_true rfl) dX9_init_7 rfl (shp_C rfl) (Or.inl rfl) na_int (Nat.le_of_ble_eq_true rfl) (Nat.le_of_ble_eq_true rfl) rfl rfl rfl ?_
  refine c_putR 9 0 dX9_init_9 (pfX9_9 rfl rfl) rfl rfl (Nat.le_of_ble_eq_true rfl) ?_
  refine w_aload_n 0 dX9_init_12 rfl rfl ?_
  refine x_sipush dX9_init_13 (by decide) ?_
  refine c_newarr (nx' := 39) (k' := 2) (n' := 281) .int 200 rfl (Nat.le_of_ble_eq_true rfl) dX9_init_16 rfl (shp_C rfl) (Or.inl rfl) na_int (Nat.le_of_ble_eq_true rfl) (Nat.le_of_ble_eq_true rfl) rfl rfl rfl ?_
  refine c_putR 9 1 dX9_init_18 (pfX9_15 rfl rfl) rfl rfl (Nat.le_of_ble_eq_true rfl) ?_
  exact w_return rfl dX9_init_21 rfl (Nat.le_of_ble_eq_true rfl) (Nat.le_of_ble_eq_true rfl) ⟨rfl, rfl⟩
set_option maxRecDepth 100000 in
theorem i_39 {C : Cx} (Rb : Nat → Nat → Option Nat) (L : List (Nat × Nat × Nat)) (s : Sg) : mm C M_X9_init 1 2 281 40 42 [.ref 39] (hcb Rb L s) (fun v h => v = none ∧ h = hcb Rb ((39, 1, 41) :: (39, 0, 40) :: L) s) XF := by
  refine mm_of rfl rfl (Nat.le_of_ble_eq_true rfl) ?_
  show ww C M_X9_init 1 2 281 42 _ XF 40 0 0 0 [(0, .ref 39)] [] (hcb Rb L s)
  refine w_aload_n 0 dX9_init_0 rfl rfl ?_
  refine c_obj dX9_init_1 (obX9_3 rfl) (Nat.le_of_ble_eq_true rfl) (Nat.le_of_ble_eq_true rfl) ?_
  refine w_aload_n 0 dX9_init_4 rfl rfl ?_
  refine x_bipush dX9_init_5 (by decide) ?_
  refine c_newarr (nx' := 41) (k' := 1) (n' := 81) .int 81 rfl (Nat.le_of_ble_eq_true rfl) dX9_init_7 rfl (shp_C rfl) (Or.inl rfl) na_int (Nat.le_of_ble_eq_true rfl) (Nat.le_of_ble_eq_true rfl) rfl rfl rfl ?_
  refine c_putR 9 0 dX9_init_9 (pfX9_9 rfl rfl) rfl rfl (Nat.le_of_ble_eq_true rfl) ?_
  refine w_aload_n 0 dX9_init_12 rfl rfl ?_
  refine x_sipush dX9_init_13 (by decide) ?_
  refine c_newarr (nx' := 42) (k' := 2) (n' := 281) .int 200 rfl (Nat.le_of_ble_eq_true rfl) dX9_init_16 rfl (shp_C rfl) (Or.inl rfl) na_int (Nat.le_of_ble_eq_true rfl) (Nat.le_of_ble_eq_true rfl) rfl rfl rfl ?_
  refine c_putR 9 1 dX9_init_18 (pfX9_15 rfl rfl) rfl rfl (Nat.le_of_ble_eq_true rfl) ?_
  exact w_return rfl dX9_init_21 rfl (Nat.le_of_ble_eq_true rfl) (Nat.le_of_ble_eq_true rfl) ⟨rfl, rfl⟩
set_option maxRecDepth 100000 in
theorem i_16 {C : Cx} (Rb : Nat → Nat → Option Nat) (L : List (Nat × Nat × Nat)) (s : Sg) : mm C M_X6_init 2 25 2312 17 42 [.ref 16] (hcb Rb L s) (fun v h => v = none ∧ h = hcb Rb ((17, 7, 39) :: (39, 1, 41) :: (39, 0, 40) :: (17, 6, 36) :: (36, 1, 38) :: (36, 0, 37) :: (17, 5, 33) :: (33, 1, 35) :: (33, 0, 34) :: (17, 4, 30) :: (30, 1, 32) :: (30, 0, 31) :: (17, 3, 27) :: (27, 1, 29) :: (27, 0, 28) :: (17, 2, 24) :: (24, 1, 26) :: (24, 0, 25) :: (17, 1, 21) :: (21, 1, 23) :: (21, 0, 22) :: (17, 0, 18) :: (18, 1, 20) :: (18, 0, 19) :: (16, 0, 17) :: L) s) XF := by
  refine mm_of rfl rfl (Nat.le_of_ble_eq_true rfl) ?_
  show ww C M_X6_init 2 25 2312 42 _ XF 17 0 0 0 [(0, .ref 16)] [] (hcb Rb L s)
  refine w_aload_n 0 dX6_init_0 rfl rfl ?_
  refine c_obj dX6_init_1 (obX6_3 rfl) (Nat.le_of_ble_eq_true rfl) (Nat.le_of_ble_eq_true rfl) ?_
  refine w_aload_n 0 dX6_init_4 rfl rfl ?_
  refine x_bipush dX6_init_5 (by decide) ?_
  refine c_newq (nx' := 18) (k' := 1) (n' := 8) 8 rfl (Nat.le_of_ble_eq_true rfl) dX6_init_7 (shp_C rfl) (nqX6_9 rfl) (Nat.le_of_ble_eq_true rfl) (Nat.le_of_ble_eq_true rfl) rfl rfl rfl ?_
  refine c_putR 6 0 dX6_init_10 (pfX6_11 rfl rfl) rfl rfl (Nat.le_of_ble_eq_true rfl) ?_
  refine x_iconst dX6_init_13 ?_
  refine w_istore_n (lv' := [(1, vi 0), (0, .ref 16)]) dX6_init_14 rfl (Nat.le_of_ble_eq_true rfl) rfl ?_
  refine w_iload_n 0 dX6_init_15 rfl rfl ?_
  refine x_bipush dX6_init_16 (by decide) ?_
  refine c_ge_f (by unfold R; decide) dX6_init_18 rfl ?_
  refine w_aload_n 1 dX6_init_21 rfl rfl ?_
  refine c_getR 6 0 (b := 17) dX6_init_22 (fxX6_11 rfl) rfl rfl (Nat.le_of_ble_eq_true rfl) rfl ?_
  refine w_iload_n 0 dX6_init_25 rfl rfl ?_
  refine c_new (nx' := 19) (k' := 2) (n' := 15) 9 dX6_init_26 (shp_C rfl) (nwX6_9 rfl) (Nat.le_of_ble_eq_true rfl) (Nat.le_of_ble_eq_true rfl) rfl rfl rfl ?_
  refine w_dup dX6_init_29 rfl ?_
  refine c_init M_X9_init [] [.ref 18, vi 0, .ref 17] rfl (show 2 + 2 = 4 from rfl) (show 15 + 281 = 296 from rfl) dX6_init_30 (lkX6_17 _ rfl) (Nat.le_of_ble_eq_true rfl) (Nat.le_of_ble_eq_true rfl) (Nat.le_of_ble_eq_true rfl) (Nat.le_of_ble_eq_true rfl) (i_18 Rb ((16, 0, 17) :: L) s) ?_
  refine c_aast (N := 8) 0 rfl (Nat.le_of_ble_eq_true rfl) (Nat.le_of_ble_eq_true rfl) dX6_init_33 rfl (Nat.le_of_ble_eq_true rfl) rfl (Nat.le_of_ble_eq_true rfl) ?_
  refine x_iinc (lv' := [(1, vi 1), (0, .ref 16)]) 0 dX6_init_34 rfl (Nat.le_of_ble_eq_true rfl) rfl ?_
  refine w_goto dX6_init_37 rfl ?_
  refine w_iload_n 0 dX6_init_15 rfl rfl ?_
  refine x_bipush dX6_init_16 (by decide) ?_
  refine c_ge_f (by unfold R; decide) dX6_init_18 rfl ?_
  refine w_aload_n 1 dX6_init_21 rfl rfl ?_
  refine c_getR 6 0 (b := 17) dX6_init_22 (fxX6_11 rfl) rfl rfl (Nat.le_of_ble_eq_true rfl) rfl ?_
  refine w_iload_n 0 dX6_init_25 rfl rfl ?_
  refine c_new (nx' := 22) (k' := 5) (n' := 303) 9 dX6_init_26 (shp_C rfl) (nwX6_9 rfl) (Nat.le_of_ble_eq_true rfl) (Nat.le_of_ble_eq_true rfl) rfl rfl rfl ?_
  refine w_dup dX6_init_29 rfl ?_
  refine c_init M_X9_init [] [.ref 21, vi 1, .ref 17] rfl (show 5 + 2 = 7 from rfl) (show 303 + 281 = 584 from rfl) dX6_init_30 (lkX6_17 _ rfl) (Nat.le_of_ble_eq_true rfl) (Nat.le_of_ble_eq_true rfl) (Nat.le_of_ble_eq_true rfl) (Nat.le_of_ble_eq_true rfl) (i_21 Rb ((17, 0, 18) :: (18, 1, 20) :: (18, 0, 19) :: (16, 0, 17) :: L) s) ?_
  refine c_aast (N := 8) 1 rfl (Nat.le_of_ble_eq_true rfl) (Nat.le_of_ble_eq_true rfl) dX6_init_33 rfl (Nat.le_of_ble_eq_true rfl) rfl (Nat.le_of_ble_eq_true rfl) ?_
  refine x_iinc (lv' := [(1, vi 2), (0, .ref 16)]) 0 dX6_init_34 rfl (Nat.le_of_ble_eq_true rfl) rfl ?_
  refine w_goto dX6_init_37 rfl ?_
  refine w_iload_n 0 dX6_init_15 rfl rfl ?_
  refine x_bipush dX6_init_16 (by decide) ?_
  refine c_ge_f (by unfold R; decide) dX6_init_18 rfl ?_
  refine w_aload_n 1 dX6_init_21 rfl rfl ?_
  refine c_getR 6 0 (b := 17) dX6_init_22 (fxX6_11 rfl) rfl rfl (Nat.le_of_ble_eq_true rfl) rfl ?_
  refine w_iload_n 0 dX6_init_25 rfl rfl ?_
  refine c_new (nx' := 25) (k' := 8) (n' := 591) 9 dX6_init_26 (shp_C rfl) (nwX6_9 rfl) (Nat.le_of_ble_eq_true rfl) (Nat.le_of_ble_eq_true rfl) rfl rfl rfl ?_
  refine w_dup dX6_init_29 rfl ?_
  refine c_init M_X9_init [] [.ref 24, vi 2, .ref 17] rfl (show 8 + 2 = 10 from rfl) (show 591 + 281 = 872 from rfl) dX6_init_30 (lkX6_17 _ rfl) (Nat.le_of_ble_eq_true rfl) (Nat.le_of_ble_eq_true rfl) (Nat.le_of_ble_eq_true rfl) (Nat.le_of_ble_eq_true rfl) (i_24 Rb ((17, 1, 21) :: (21, 1, 23) :: (21, 0, 22) :: (17, 0, 18) :: (18, 1, 20) :: (18, 0, 19) :: (16, 0, 17) :: L) s) ?_
  refine c_aast (N := 8) 2 rfl (Nat.le_of_ble_eq_true rfl) (Nat.le_of_ble_eq_true rfl) dX6_init_33 rfl (Nat.le_of_ble_eq_true rfl) rfl (Nat.le_of_ble_eq_true rfl) ?_
  refine x_iinc (lv' := [(1, vi 3), (0, .ref 16)]) 0 dX6_init_34 rfl (Nat.le_of_ble_eq_true rfl) rfl ?_
  refine w_goto dX6_init_37 rfl ?_
  refine w_iload_n 0 dX6_init_15 rfl rfl ?_
  refine x_bipush dX6_init_16 (by decide) ?_
  refine c_ge_f (by unfold R; decide) dX6_init_18 rfl ?_
  refine w_aload_n 1 dX6_init_21 rfl rfl ?_
  refine c_getR 6 0 (b := 17) dX6_init_22 (fxX6_11 rfl) rfl rfl (Nat.le_of_ble_eq_true rfl) rfl ?_
  refine w_iload_n 0 dX6_init_25 rfl rfl ?_
  refine c_new (nx' := 28) (k' := 11) (n' := 879) 9 dX6_init_26 (shp_C rfl) (nwX6_9 rfl) (Nat.le_of_ble_eq_true rfl) (Nat.le_of_ble_eq_true rfl) rfl rfl rfl ?_
  refine w_dup dX6_init_29 rfl ?_
  refine c_init M_X9_init [] [.ref 27, vi 3, .ref 17] rfl (show 11 + 2 = 13 from rfl) (show 879 + 281 = 1160 from rfl) dX6_init_30 (lkX6_17 _ rfl) (Nat.le_of_ble_eq_true rfl) (Nat.le_of_ble_eq_true rfl) (Nat.le_of_ble_eq_true rfl) (Nat.le_of_ble_eq_true rfl) (i_27 Rb ((17, 2, 24) :: (24, 1, 26) :: (24, 0, 25) :: (17, 1, 21) :: (21, 1, 23) :: (21, 0, 22) :: (17, 0, 18) :: (18, 1, 20) :: (18, 0, 19) :: (16, 0, 17) :: L) s) ?_
  refine c_aast (N := 8) 3 rfl (Nat.le_of_ble_eq_true rfl) (Nat.le_of_ble_eq_true rfl) dX6_init_33 rfl (Nat.le_of_ble_eq_true rfl) rfl (Nat.le_of_ble_eq_true rfl) ?_
  refine x_iinc (lv' := [(1, vi 4), (0, .ref 16)]) 0 dX6_init_34 rfl (Nat.le_of_ble_eq_true rfl) rfl ?_
  refine w_goto dX6_init_37 rfl ?_
  refine w_iload_n 0 dX6_init_15 rfl rfl ?_
  refine x_bipush dX6_init_16 (by decide) ?_
  refine c_ge_f (by unfold R; decide) dX6_init_18 rfl ?_
  refine w_aload_n 1 dX6_init_21 rfl rfl ?_
  refine c_getR 6 0 (b := 17) dX6_init_22 (fxX6_11 rfl) rfl rfl (Nat.le_of_ble_eq_true rfl) rfl ?_
  refine w_iload_n 0 dX6_init_25 rfl rfl ?_
  refine c_new (nx' := 31) (k' := 14) (n' := 1167) 9 dX6_init_26 (shp_C rfl) (nwX6_9 rfl) (Nat.le_of_ble_eq_true rfl) (Nat.le_of_ble_eq_true rfl) rfl rfl rfl ?_
  refine w_dup dX6_init_29 rfl ?_
  refine c_init M_X9_init [] [.ref 30, vi 4, .ref 17] rfl (show 14 + 2 = 16 from rfl) (show 1167 + 281 = 1448 from rfl) dX6_init_30 (lkX6_17 _ rfl) (Nat.le_of_ble_eq_true rfl) (Nat.le_of_ble_eq_true rfl) (Nat.le_of_ble_eq_true rfl) (Nat.le_of_ble_eq_true rfl) (i_30 Rb ((17, 3, 27) :: (27, 1, 29) :: (27, 0, 28) :: (17, 2, 24) :: (24, 1, 26) :: (24, 0, 25) :: (17, 1, 21) :: (21, 1, 23) :: (21, 0, 22) :: (17, 0, 18) :: (18, 1, 20) :: (18, 0, 19) :: (16, 0, 17) :: L) s) ?_
  refine c_aast (N := 8) 4 rfl (Nat.le_of_ble_eq_true rfl) (Nat.le_of_ble_eq_true rfl) dX6_init_33 rfl (Nat.le_of_ble_eq_true rfl) rfl (Nat.le_of_ble_eq_true rfl) ?_
  refine x_iinc (lv' := [(1, vi 5), (0, .ref 16)]) 0 dX6_init_34 rfl (Nat.le_of_ble_eq_true rfl) rfl ?_
  refine w_goto dX6_init_37 rfl ?_
  refine w_iload_n 0 dX6_init_15 rfl rfl ?_
  refine x_bipush dX6_init_16 (by decide) ?_
  refine c_ge_f (by unfold R; decide) dX6_init_18 rfl ?_
  refine w_aload_n 1 dX6_init_21 rfl rfl ?_
  refine c_getR 6 0 (b := 17) dX6_init_22 (fxX6_11 rfl) rfl rfl (Nat.le_of_ble_eq_true rfl) rfl ?_
  refine w_iload_n 0 dX6_init_25 rfl rfl ?_
  refine c_new (nx' := 34) (k' := 17) (n' := 1455) 9 dX6_init_26 (shp_C rfl) (nwX6_9 rfl) (Nat.le_of_ble_eq_true rfl) (Nat.le_of_ble_eq_true rfl) rfl rfl rfl ?_
  refine w_dup dX6_init_29 rfl ?_
  refine c_init M_X9_init [] [.ref 33, vi 5, .ref 17] rfl (show 17 + 2 = 19 from rfl) (show 1455 + 281 = 1736 from rfl) dX6_init_30 (lkX6_17 _ rfl) (Nat.le_of_ble_eq_true rfl) (Nat.le_of_ble_eq_true rfl) (Nat.le_of_ble_eq_true rfl) (Nat.le_of_ble_eq_true rfl) (i_33 Rb ((17, 4, 30) :: (30, 1, 32) :: (30, 0, 31) :: (17, 3, 27) :: (27, 1, 29) :: (27, 0, 28) :: (17, 2, 24) :: (24, 1, 26) :: (24, 0, 25) :: (17, 1, 21) :: (21, 1, 23) :: (21, 0, 22) :: (17, 0, 18) :: (18, 1, 20) :: (18, 0, 19) :: (16, 0, 17) :: L) s) ?_
  refine c_aast (N := 8) 5 rfl (Nat.le_of_ble_eq_true rfl) (Nat.le_of_ble_eq_true rfl) dX6_init_33 rfl (Nat.le_of_ble_eq_true rfl) rfl (Nat.le_of_ble_eq_true rfl) ?_
  refine x_iinc (lv' := [(1, vi 6), (0, .ref 16)]) 0 dX6_init_34 rfl (Nat.le_of_ble_eq_true rfl) rfl ?_
  refine w_goto dX6_init_37 rfl ?_
  refine w_iload_n 0 dX6_init_15 rfl rfl ?_
  refine x_bipush dX6_init_16 (by decide) ?_
  refine c_ge_f (by unfold R; decide) dX6_init_18 rfl ?_
  refine w_aload_n 1 dX6_init_21 rfl rfl ?_
  refine c_getR 6 0 (b := 17) dX6_init_22 (fxX6_11 rfl) rfl rfl (Nat.le_of_ble_eq_true rfl) rfl ?_
  refine w_iload_n 0 dX6_init_25 rfl rfl ?_
  refine c_new (nx' := 37) (k' := 20) (n' := 1743) 9 dX6_init_26 (shp_C rfl) (nwX6_9 rfl) (Nat.le_of_ble_eq_true rfl) (Nat.le_of_ble_eq_true rfl) rfl rfl rfl ?_
  refine w_dup dX6_init_29 rfl ?_
  refine c_init M_X9_init [] [.ref 36, vi 6, .ref 17] rfl (show 20 + 2 = 22 from rfl) (show 1743 + 281 = 2024 from rfl) dX6_init_30 (lkX6_17 _ rfl) (Nat.le_of_ble_eq_true rfl) (Nat.le_of_ble_eq_true rfl) (Nat.le_of_ble_eq_true rfl) (Nat.le_of_ble_eq_true rfl) (i_36 Rb ((17, 5, 33) :: (33, 1, 35) :: (33, 0, 34) :: (17, 4, 30) :: (30, 1, 32) :: (30, 0, 31) :: (17, 3, 27) :: (27, 1, 29) :: (27, 0, 28) :: (17, 2, 24) :: (24, 1, 26) :: (24, 0, 25) :: (17, 1, 21) :: (21, 1, 23) :: (21, 0, 22) :: (17, 0, 18) :: (18, 1, 20) :: (18, 0, 19) :: (16, 0, 17) :: L) s) ?_
  refine c_aast (N := 8) 6 rfl (Nat.le_of_ble_eq_true rfl) (Nat.le_of_ble_eq_true rfl) dX6_init_33 rfl (Nat.le_of_ble_eq_true rfl) rfl (Nat.le_of_ble_eq_true rfl) ?_
  refine x_iinc (lv' := [(1, vi 7), (0, .ref 16)]) 0 dX6_init_34 rfl (Nat.le_of_ble_eq_true rfl) rfl ?_
  refine w_goto dX6_init_37 rfl ?_
  refine w_iload_n 0 dX6_init_15 rfl rfl ?_
  refine x_bipush dX6_init_16 (by decide) ?_
  refine c_ge_f (by unfold R; decide) dX6_init_18 rfl ?_
  refine w_aload_n 1 dX6_init_21 rfl rfl ?_
  refine c_getR 6 0 (b := 17) dX6_init_22 (fxX6_11 rfl) rfl rfl (Nat.le_of_ble_eq_true rfl) rfl ?_
  refine w_iload_n 0 dX6_init_25 rfl rfl ?_
  refine c_new (nx' := 40) (k' := 23) (n' := 2031) 9 dX6_init_26 (shp_C rfl) (nwX6_9 rfl) (Nat.le_of_ble_eq_true rfl) (Nat.le_of_ble_eq_true rfl) rfl rfl rfl ?_
  refine w_dup dX6_init_29 rfl ?_
  refine c_init M_X9_init [] [.ref 39, vi 7, .ref 17] rfl (show 23 + 2 = 25 from rfl) (show 2031 + 281 = 2312 from rfl) dX6_init_30 (lkX6_17 _ rfl) (Nat.le_of_ble_eq_true rfl) (Nat.le_of_ble_eq_true rfl) (Nat.le_of_ble_eq_true rfl) (Nat.le_of_ble_eq_true rfl) (i_39 Rb ((17, 6, 36) :: (36, 1, 38) :: (36, 0, 37) :: (17, 5, 33) :: (33, 1, 35) :: (33, 0, 34) :: (17, 4, 30) :: (30, 1, 32) :: (30, 0, 31) :: (17, 3, 27) :: (27, 1, 29) :: (27, 0, 28) :: (17, 2, 24) :: (24, 1, 26) :: (24, 0, 25) :: (17, 1, 21) :: (21, 1, 23) :: (21, 0, 22) :: (17, 0, 18) :: (18, 1, 20) :: (18, 0, 19) :: (16, 0, 17) :: L) s) ?_
  refine c_aast (N := 8) 7 rfl (Nat.le_of_ble_eq_true rfl) (Nat.le_of_ble_eq_true rfl) dX6_init_33 rfl (Nat.le_of_ble_eq_true rfl) rfl (Nat.le_of_ble_eq_true rfl) ?_
  refine x_iinc (lv' := [(1, vi 8), (0, .ref 16)]) 0 dX6_init_34 rfl (Nat.le_of_ble_eq_true rfl) rfl ?_
  refine w_goto dX6_init_37 rfl ?_
  refine w_iload_n 0 dX6_init_15 rfl rfl ?_
  refine x_bipush dX6_init_16 (by decide) ?_
  refine c_ge_t (by unfold R; decide) dX6_init_18 rfl ?_
  exact w_return rfl dX6_init_40 rfl (Nat.le_of_ble_eq_true rfl) (Nat.le_of_ble_eq_true rfl) ⟨rfl, rfl⟩
set_option maxRecDepth 100000 in
theorem i_42 {C : Cx} (Rb : Nat → Nat → Option Nat) (L : List (Nat × Nat × Nat)) (s : Sg) : mm C M_X9_init 1 2 281 43 45 [.ref 42] (hcb Rb L s) (fun v h => v = none ∧ h = hcb Rb ((42, 1, 44) :: (42, 0, 43) :: L) s) XF := by
  refine mm_of rfl rfl (Nat.le_of_ble_eq_true rfl) ?_
  show ww C M_X9_init 1 2 281 45 _ XF 43 0 0 0 [(0, .ref 42)] [] (hcb Rb L s)
  refine w_aload_n 0 dX9_init_0 rfl rfl ?_
  refine c_obj dX9_init_1 (obX9_3 rfl) (Nat.le_of_ble_eq_true rfl) (Nat.le_of_ble_eq_true rfl) ?_
  refine w_aload_n 0 dX9_init_4 rfl rfl ?_
  refine x_bipush dX9_init_5 (by decide) ?_
  refine c_newarr (nx' := 44) (k' := 1) (n' := 81) .int 81 rfl (Nat.le_of_ble_eq_true rfl) dX9_init_7 rfl (shp_C rfl) (Or.inl rfl) na_int (Nat.le_of_ble_eq_true rfl) (Nat.le_of_ble_eq_true rfl) rfl rfl rfl ?_
  refine c_putR 9 0 dX9_init_9 (pfX9_9 rfl rfl) rfl rfl (Nat.le_of_ble_eq_true rfl) ?_
  refine w_aload_n 0 dX9_init_12 rfl rfl ?_
  refine x_sipush dX9_init_13 (by decide) ?_
  refine c_newarr (nx' := 45) (k' := 2) (n' := 281) .int 200 rfl (Nat.le_of_ble_eq_true rfl) dX9_init_16 rfl (shp_C rfl) (Or.inl rfl) na_int (Nat.le_of_ble_eq_true rfl) (Nat.le_of_ble_eq_true rfl) rfl rfl rfl ?_
  refine c_putR 9 1 dX9_init_18 (pfX9_15 rfl rfl) rfl rfl (Nat.le_of_ble_eq_true rfl) ?_
  exact w_return rfl dX9_init_21 rfl (Nat.le_of_ble_eq_true rfl) (Nat.le_of_ble_eq_true rfl) ⟨rfl, rfl⟩
set_option maxRecDepth 100000 in
theorem i_45 {C : Cx} (Rb : Nat → Nat → Option Nat) (L : List (Nat × Nat × Nat)) (s : Sg) : mm C M_X9_init 1 2 281 46 48 [.ref 45] (hcb Rb L s) (fun v h => v = none ∧ h = hcb Rb ((45, 1, 47) :: (45, 0, 46) :: L) s) XF := by
  refine mm_of rfl rfl (Nat.le_of_ble_eq_true rfl) ?_
  show ww C M_X9_init 1 2 281 48 _ XF 46 0 0 0 [(0, .ref 45)] [] (hcb Rb L s)
  refine w_aload_n 0 dX9_init_0 rfl rfl ?_
  refine c_obj dX9_init_1 (obX9_3 rfl) (Nat.le_of_ble_eq_true rfl) (Nat.le_of_ble_eq_true rfl) ?_
  refine w_aload_n 0 dX9_init_4 rfl rfl ?_
  refine x_bipush dX9_init_5 (by decide) ?_
  refine c_newarr (nx' := 47) (k' := 1) (n' := 81) .int 81 rfl (Nat.le_of_ble_eq_true rfl) dX9_init_7 rfl (shp_C rfl) (Or.inl rfl) na_int (Nat.le_of_ble_eq_true rfl) (Nat.le_of_ble_eq_true rfl) rfl rfl rfl ?_
  refine c_putR 9 0 dX9_init_9 (pfX9_9 rfl rfl) rfl rfl (Nat.le_of_ble_eq_true rfl) ?_
  refine w_aload_n 0 dX9_init_12 rfl rfl ?_
  refine x_sipush dX9_init_13 (by decide) ?_
  refine c_newarr (nx' := 48) (k' := 2) (n' := 281) .int 200 rfl (Nat.le_of_ble_eq_true rfl) dX9_init_16 rfl (shp_C rfl) (Or.inl rfl) na_int (Nat.le_of_ble_eq_true rfl) (Nat.le_of_ble_eq_true rfl) rfl rfl rfl ?_
  refine c_putR 9 1 dX9_init_18 (pfX9_15 rfl rfl) rfl rfl (Nat.le_of_ble_eq_true rfl) ?_
  exact w_return rfl dX9_init_21 rfl (Nat.le_of_ble_eq_true rfl) (Nat.le_of_ble_eq_true rfl) ⟨rfl, rfl⟩
set_option maxRecDepth 100000 in
theorem i_48 {C : Cx} (Rb : Nat → Nat → Option Nat) (L : List (Nat × Nat × Nat)) (s : Sg) : mm C M_X1_init 1 1 400 49 50 [.ref 48, vi 400] (hcb Rb L s) (fun v h => v = none ∧ h = hcb Rb ((48, 0, 49) :: L) s) XF := by
  refine mm_of rfl rfl (Nat.le_of_ble_eq_true rfl) ?_
  show ww C M_X1_init 1 1 400 50 _ XF 49 0 0 0 [(0, .ref 48), (1, vi 400)] [] (hcb Rb L s)
  refine w_aload_n 0 dX1_init_0 rfl rfl ?_
  refine c_obj dX1_init_1 (obX1_3 rfl) (Nat.le_of_ble_eq_true rfl) (Nat.le_of_ble_eq_true rfl) ?_
  refine w_aload_n 0 dX1_init_4 rfl rfl ?_
  refine x_iconst dX1_init_5 ?_
  refine w_iload_n 1 dX1_init_6 rfl rfl ?_
  refine x_mmax (by unfold R; decide) (by unfold R; decide) dX1_init_7 (lkX1_9 rfl) (Nat.le_of_ble_eq_true rfl) (Nat.le_of_ble_eq_true rfl) (Nat.le_of_ble_eq_true rfl) (Nat.le_of_ble_eq_true rfl) ?_
  refine c_newarr (nx' := 50) (k' := 1) (n' := 400) .int 400 (by decide) (Nat.le_of_ble_eq_true rfl) dX1_init_10 rfl (shp_C rfl) (Or.inl rfl) na_int (Nat.le_of_ble_eq_true rfl) (Nat.le_of_ble_eq_true rfl) rfl rfl rfl ?_
  refine c_putR 1 0 dX1_init_12 (pfX1_15 rfl rfl) rfl rfl (Nat.le_of_ble_eq_true rfl) ?_
  exact w_return rfl dX1_init_15 rfl (Nat.le_of_ble_eq_true rfl) (Nat.le_of_ble_eq_true rfl) ⟨rfl, rfl⟩
set_option maxRecDepth 100000 in
theorem i_50 {C : Cx} (Rb : Nat → Nat → Option Nat) (L : List (Nat × Nat × Nat)) (s : Sg) : mm C M_X1_init 1 1 9 51 52 [.ref 50, vi 9] (hcb Rb L s) (fun v h => v = none ∧ h = hcb Rb ((50, 0, 51) :: L) s) XF := by
  refine mm_of rfl rfl (Nat.le_of_ble_eq_true rfl) ?_
  show ww C M_X1_init 1 1 9 52 _ XF 51 0 0 0 [(0, .ref 50), (1, vi 9)] [] (hcb Rb L s)
  refine w_aload_n 0 dX1_init_0 rfl rfl ?_
  refine c_obj dX1_init_1 (obX1_3 rfl) (Nat.le_of_ble_eq_true rfl) (Nat.le_of_ble_eq_true rfl) ?_
  refine w_aload_n 0 dX1_init_4 rfl rfl ?_
  refine x_iconst dX1_init_5 ?_
  refine w_iload_n 1 dX1_init_6 rfl rfl ?_
  refine x_mmax (by unfold R; decide) (by unfold R; decide) dX1_init_7 (lkX1_9 rfl) (Nat.le_of_ble_eq_true rfl) (Nat.le_of_ble_eq_true rfl) (Nat.le_of_ble_eq_true rfl) (Nat.le_of_ble_eq_true rfl) ?_
  refine c_newarr (nx' := 52) (k' := 1) (n' := 9) .int 9 (by decide) (Nat.le_of_ble_eq_true rfl) dX1_init_10 rfl (shp_C rfl) (Or.inl rfl) na_int (Nat.le_of_ble_eq_true rfl) (Nat.le_of_ble_eq_true rfl) rfl rfl rfl ?_
  refine c_putR 1 0 dX1_init_12 (pfX1_15 rfl rfl) rfl rfl (Nat.le_of_ble_eq_true rfl) ?_
  exact w_return rfl dX1_init_15 rfl (Nat.le_of_ble_eq_true rfl) (Nat.le_of_ble_eq_true rfl) ⟨rfl, rfl⟩
set_option maxRecDepth 100000 in
theorem i_53 {C : Cx} (Rb : Nat → Nat → Option Nat) (L : List (Nat × Nat × Nat)) (s : Sg) : mm C M_X9_init 1 2 281 54 56 [.ref 53] (hcb Rb L s) (fun v h => v = none ∧ h = hcb Rb ((53, 1, 55) :: (53, 0, 54) :: L) s) XF := by
  refine mm_of rfl rfl (Nat.le_of_ble_eq_true rfl) ?_
  show ww C M_X9_init 1 2 281 56 _ XF 54 0 0 0 [(0, .ref 53)] [] (hcb Rb L s)
  refine w_aload_n 0 dX9_init_0 rfl rfl ?_
  refine c_obj dX9_init_1 (obX9_3 rfl) (Nat.le_of_ble_eq_true rfl) (Nat.le_of_ble_eq_true rfl) ?_
  refine w_aload_n 0 dX9_init_4 rfl rfl ?_
  refine x_bipush dX9_init_5 (by decide) ?_
  refine c_newarr (nx' := 55) (k' := 1) (n' := 81) .int 81 rfl (Nat.le_of_ble_eq_true rfl) dX9_init_7 rfl (shp_C rfl) (Or.inl rfl) na_int (Nat.le_of_ble_eq_true rfl) (Nat.le_of_ble_eq_true rfl) rfl rfl rfl ?_
  refine c_putR 9 0 dX9_init_9 (pfX9_9 rfl rfl) rfl rfl (Nat.le_of_ble_eq_true rfl) ?_
  refine w_aload_n 0 dX9_init_12 rfl rfl ?_
  refine x_sipush dX9_init_13 (by decide) ?_
  refine c_newarr (nx' := 56) (k' := 2) (n' := 281) .int 200 rfl (Nat.le_of_ble_eq_true rfl) dX9_init_16 rfl (shp_C rfl) (Or.inl rfl) na_int (Nat.le_of_ble_eq_true rfl) (Nat.le_of_ble_eq_true rfl) rfl rfl rfl ?_
  refine c_putR 9 1 dX9_init_18 (pfX9_15 rfl rfl) rfl rfl (Nat.le_of_ble_eq_true rfl) ?_
  exact w_return rfl dX9_init_21 rfl (Nat.le_of_ble_eq_true rfl) (Nat.le_of_ble_eq_true rfl) ⟨rfl, rfl⟩
set_option maxRecDepth 100000 in
theorem i_52 {C : Cx} (Rb : Nat → Nat → Option Nat) (L : List (Nat × Nat × Nat)) (s : Sg) : mm C M_X10_init 2 3 288 53 56 [.ref 52, .ref 48, .ref 1, .ref 5] (hcb Rb L s) (fun v h => v = none ∧ h = hcb Rb ((52, 3, 53) :: (53, 1, 55) :: (53, 0, 54) :: (52, 2, 5) :: (52, 1, 1) :: (52, 0, 48) :: L) s) XF := by
  refine mm_of rfl rfl (Nat.le_of_ble_eq_true rfl) ?_
  show ww C M_X10_init 2 3 288 56 _ XF 53 0 0 0 [(0, .ref 52), (1, .ref 48), (2, .ref 1), (3, .ref 5)] [] (hcb Rb L s)
  refine w_aload_n 0 dX10_init_0 rfl rfl ?_
  refine c_obj dX10_init_1 (obX10_3 rfl) (Nat.le_of_ble_eq_true rfl) (Nat.le_of_ble_eq_true rfl) ?_
  refine w_aload_n 0 dX10_init_4 rfl rfl ?_
  refine w_aload_n 1 dX10_init_5 rfl rfl ?_
  refine c_putR 10 0 dX10_init_6 (pfX10_9 rfl rfl) rfl rfl (Nat.le_of_ble_eq_true rfl) ?_
  refine w_aload_n 0 dX10_init_9 rfl rfl ?_
  refine w_aload_n 2 dX10_init_10 rfl rfl ?_
  refine c_putR 10 1 dX10_init_11 (pfX10_15 rfl rfl) rfl rfl (Nat.le_of_ble_eq_true rfl) ?_
  refine w_aload_n 0 dX10_init_14 rfl rfl ?_
  refine w_aload_n 3 dX10_init_15 rfl rfl ?_
  refine c_putR 10 2 dX10_init_16 (pfX10_19 rfl rfl) rfl rfl (Nat.le_of_ble_eq_true rfl) ?_
  refine w_aload_n 0 dX10_init_19 rfl rfl ?_
  refine c_new (nx' := 54) (k' := 1) (n' := 7) 9 dX10_init_20 (shp_C rfl) (nwX10_23 rfl) (Nat.le_of_ble_eq_true rfl) (Nat.le_of_ble_eq_true rfl) rfl rfl rfl ?_
  refine w_dup dX10_init_23 rfl ?_
  refine c_init M_X9_init [] [.ref 53, .ref 52] rfl (show 1 + 2 = 3 from rfl) (show 7 + 281 = 288 from rfl) dX10_init_24 (lkX10_25 _ rfl) (Nat.le_of_ble_eq_true rfl) (Nat.le_of_ble_eq_true rfl) (Nat.le_of_ble_eq_true rfl) (Nat.le_of_ble_eq_true rfl) (i_53 Rb ((52, 2, 5) :: (52, 1, 1) :: (52, 0, 48) :: L) s) ?_
  refine c_putR 10 3 dX10_init_27 (pfX10_26 rfl rfl) rfl rfl (Nat.le_of_ble_eq_true rfl) ?_
  exact w_return rfl dX10_init_30 rfl (Nat.le_of_ble_eq_true rfl) (Nat.le_of_ble_eq_true rfl) ⟨rfl, rfl⟩
set_option maxRecDepth 100000 in
theorem i_56 {C : Cx} (Rb : Nat → Nat → Option Nat) (L : List (Nat × Nat × Nat)) (s : Sg) : mm C M_X0_init 1 6 2106 57 63 [.ref 56, .ref 1] (hcb Rb L s) (fun v h => v = none ∧ h = hcb Rb ((56, 6, 62) :: (56, 5, 61) :: (56, 4, 60) :: (56, 3, 59) :: (56, 2, 58) :: (56, 1, 57) :: (56, 0, 1) :: L) s) XF := by
  refine mm_of rfl rfl (Nat.le_of_ble_eq_true rfl) ?_
  show ww C M_X0_init 1 6 2106 63 _ XF 57 0 0 0 [(0, .ref 56), (1, .ref 1)] [] (hcb Rb L s)
  refine w_aload_n 0 dX0_init_0 rfl rfl ?_
  refine c_obj dX0_init_1 (obX0_3 rfl) (Nat.le_of_ble_eq_true rfl) (Nat.le_of_ble_eq_true rfl) ?_
  refine w_aload_n 0 dX0_init_4 rfl rfl ?_
  refine w_aload_n 1 dX0_init_5 rfl rfl ?_
  refine c_putR 0 0 dX0_init_6 (pfX0_9 rfl rfl) rfl rfl (Nat.le_of_ble_eq_true rfl) ?_
  refine w_aload_n 0 dX0_init_9 rfl rfl ?_
  refine x_sipush dX0_init_10 (by decide) ?_
  refine c_newarr (nx' := 58) (k' := 1) (n' := 405) .int 405 rfl (Nat.le_of_ble_eq_true rfl) dX0_init_13 rfl (shp_C rfl) (Or.inl rfl) na_int (Nat.le_of_ble_eq_true rfl) (Nat.le_of_ble_eq_true rfl) rfl rfl rfl ?_
  refine c_putR 0 1 dX0_init_15 (pfX0_15 rfl rfl) rfl rfl (Nat.le_of_ble_eq_true rfl) ?_
  refine w_aload_n 0 dX0_init_18 rfl rfl ?_
  refine x_sipush dX0_init_19 (by decide) ?_
  refine c_newarr (nx' := 59) (k' := 2) (n' := 810) .int 405 rfl (Nat.le_of_ble_eq_true rfl) dX0_init_22 rfl (shp_C rfl) (Or.inl rfl) na_int (Nat.le_of_ble_eq_true rfl) (Nat.le_of_ble_eq_true rfl) rfl rfl rfl ?_
  refine c_putR 0 2 dX0_init_24 (pfX0_19 rfl rfl) rfl rfl (Nat.le_of_ble_eq_true rfl) ?_
  refine w_aload_n 0 dX0_init_27 rfl rfl ?_
  refine x_sipush dX0_init_28 (by decide) ?_
  refine c_newarr (nx' := 60) (k' := 3) (n' := 1215) .int 405 rfl (Nat.le_of_ble_eq_true rfl) dX0_init_31 rfl (shp_C rfl) (Or.inl rfl) na_int (Nat.le_of_ble_eq_true rfl) (Nat.le_of_ble_eq_true rfl) rfl rfl rfl ?_
  refine c_putR 0 3 dX0_init_33 (pfX0_22 rfl rfl) rfl rfl (Nat.le_of_ble_eq_true rfl) ?_
  refine w_aload_n 0 dX0_init_36 rfl rfl ?_
  refine x_sipush dX0_init_37 (by decide) ?_
  refine c_newarr (nx' := 61) (k' := 4) (n' := 1620) .int 405 rfl (Nat.le_of_ble_eq_true rfl) dX0_init_40 rfl (shp_C rfl) (Or.inl rfl) na_int (Nat.le_of_ble_eq_true rfl) (Nat.le_of_ble_eq_true rfl) rfl rfl rfl ?_
  refine c_putR 0 4 dX0_init_42 (pfX0_25 rfl rfl) rfl rfl (Nat.le_of_ble_eq_true rfl) ?_
  refine w_aload_n 0 dX0_init_45 rfl rfl ?_
  refine x_sipush dX0_init_46 (by decide) ?_
  refine c_newarr (nx' := 62) (k' := 5) (n' := 2025) .int 405 rfl (Nat.le_of_ble_eq_true rfl) dX0_init_49 rfl (shp_C rfl) (Or.inl rfl) na_int (Nat.le_of_ble_eq_true rfl) (Nat.le_of_ble_eq_true rfl) rfl rfl rfl ?_
  refine c_putR 0 5 dX0_init_51 (pfX0_28 rfl rfl) rfl rfl (Nat.le_of_ble_eq_true rfl) ?_
  refine w_aload_n 0 dX0_init_54 rfl rfl ?_
  refine x_bipush dX0_init_55 (by decide) ?_
  refine c_newarr (nx' := 63) (k' := 6) (n' := 2106) .int 81 rfl (Nat.le_of_ble_eq_true rfl) dX0_init_57 rfl (shp_C rfl) (Or.inl rfl) na_int (Nat.le_of_ble_eq_true rfl) (Nat.le_of_ble_eq_true rfl) rfl rfl rfl ?_
  refine c_putR 0 6 dX0_init_59 (pfX0_31 rfl rfl) rfl rfl (Nat.le_of_ble_eq_true rfl) ?_
  exact w_return rfl dX0_init_62 rfl (Nat.le_of_ble_eq_true rfl) (Nat.le_of_ble_eq_true rfl) ⟨rfl, rfl⟩
set_option maxRecDepth 100000 in
theorem i_63 {C : Cx} (Rb : Nat → Nat → Option Nat) (L : List (Nat × Nat × Nat)) (s : Sg) : mm C M_X8_init 1 3 243 64 67 [.ref 63, .ref 1] (hcb Rb L s) (fun v h => v = none ∧ h = hcb Rb ((63, 3, 66) :: (63, 2, 65) :: (63, 1, 64) :: (63, 0, 1) :: L) s) XF := by
  refine mm_of rfl rfl (Nat.le_of_ble_eq_true rfl) ?_
  show ww C M_X8_init 1 3 243 67 _ XF 64 0 0 0 [(0, .ref 63), (1, .ref 1)] [] (hcb Rb L s)
  refine w_aload_n 0 dX8_init_0 rfl rfl ?_
  refine c_obj dX8_init_1 (obX8_3 rfl) (Nat.le_of_ble_eq_true rfl) (Nat.le_of_ble_eq_true rfl) ?_
  refine w_aload_n 0 dX8_init_4 rfl rfl ?_
  refine w_aload_n 1 dX8_init_5 rfl rfl ?_
  refine c_putR 8 0 dX8_init_6 (pfX8_9 rfl rfl) rfl rfl (Nat.le_of_ble_eq_true rfl) ?_
  refine w_aload_n 0 dX8_init_9 rfl rfl ?_
  refine x_bipush dX8_init_10 (by decide) ?_
  refine c_newarr (nx' := 65) (k' := 1) (n' := 81) .int 81 rfl (Nat.le_of_ble_eq_true rfl) dX8_init_12 rfl (shp_C rfl) (Or.inl rfl) na_int (Nat.le_of_ble_eq_true rfl) (Nat.le_of_ble_eq_true rfl) rfl rfl rfl ?_
  refine c_putR 8 1 dX8_init_14 (pfX8_15 rfl rfl) rfl rfl (Nat.le_of_ble_eq_true rfl) ?_
  refine w_aload_n 0 dX8_init_17 rfl rfl ?_
  refine x_bipush dX8_init_18 (by decide) ?_
  refine c_newarr (nx' := 66) (k' := 2) (n' := 162) .int 81 rfl (Nat.le_of_ble_eq_true rfl) dX8_init_20 rfl (shp_C rfl) (Or.inl rfl) na_int (Nat.le_of_ble_eq_true rfl) (Nat.le_of_ble_eq_true rfl) rfl rfl rfl ?_
  refine c_putR 8 2 dX8_init_22 (pfX8_19 rfl rfl) rfl rfl (Nat.le_of_ble_eq_true rfl) ?_
  refine w_aload_n 0 dX8_init_25 rfl rfl ?_
  refine x_bipush dX8_init_26 (by decide) ?_
  refine c_newarr (nx' := 67) (k' := 3) (n' := 243) .int 81 rfl (Nat.le_of_ble_eq_true rfl) dX8_init_28 rfl (shp_C rfl) (Or.inl rfl) na_int (Nat.le_of_ble_eq_true rfl) (Nat.le_of_ble_eq_true rfl) rfl rfl rfl ?_
  refine c_putR 8 3 dX8_init_30 (pfX8_22 rfl rfl) rfl rfl (Nat.le_of_ble_eq_true rfl) ?_
  exact w_return rfl dX8_init_33 rfl (Nat.le_of_ble_eq_true rfl) (Nat.le_of_ble_eq_true rfl) ⟨rfl, rfl⟩
set_option maxRecDepth 100000 in
theorem i_67 {C : Cx} (Rb : Nat → Nat → Option Nat) (L : List (Nat × Nat × Nat)) (s : Sg) : mm C M_X8_init 1 3 243 68 71 [.ref 67, .ref 1] (hcb Rb L s) (fun v h => v = none ∧ h = hcb Rb ((67, 3, 70) :: (67, 2, 69) :: (67, 1, 68) :: (67, 0, 1) :: L) s) XF := by
  refine mm_of rfl rfl (Nat.le_of_ble_eq_true rfl) ?_
  show ww C M_X8_init 1 3 243 71 _ XF 68 0 0 0 [(0, .ref 67), (1, .ref 1)] [] (hcb Rb L s)
  refine w_aload_n 0 dX8_init_0 rfl rfl ?_
  refine c_obj dX8_init_1 (obX8_3 rfl) (Nat.le_of_ble_eq_true rfl) (Nat.le_of_ble_eq_true rfl) ?_
  refine w_aload_n 0 dX8_init_4 rfl rfl ?_
  refine w_aload_n 1 dX8_init_5 rfl rfl ?_
  refine c_putR 8 0 dX8_init_6 (pfX8_9 rfl rfl) rfl rfl (Nat.le_of_ble_eq_true rfl) ?_
  refine w_aload_n 0 dX8_init_9 rfl rfl ?_
  refine x_bipush dX8_init_10 (by decide) ?_
  refine c_newarr (nx' := 69) (k' := 1) (n' := 81) .int 81 rfl (Nat.le_of_ble_eq_true rfl) dX8_init_12 rfl (shp_C rfl) (Or.inl rfl) na_int (Nat.le_of_ble_eq_true rfl) (Nat.le_of_ble_eq_true rfl) rfl rfl rfl ?_
  refine c_putR 8 1 dX8_init_14 (pfX8_15 rfl rfl) rfl rfl (Nat.le_of_ble_eq_true rfl) ?_
  refine w_aload_n 0 dX8_init_17 rfl rfl ?_
  refine x_bipush dX8_init_18 (by decide) ?_
  refine c_newarr (nx' := 70) (k' := 2) (n' := 162) .int 81 rfl (Nat.le_of_ble_eq_true rfl) dX8_init_20 rfl (shp_C rfl) (Or.inl rfl) na_int (Nat.le_of_ble_eq_true rfl) (Nat.le_of_ble_eq_true rfl) rfl rfl rfl ?_
  refine c_putR 8 2 dX8_init_22 (pfX8_19 rfl rfl) rfl rfl (Nat.le_of_ble_eq_true rfl) ?_
  refine w_aload_n 0 dX8_init_25 rfl rfl ?_
  refine x_bipush dX8_init_26 (by decide) ?_
  refine c_newarr (nx' := 71) (k' := 3) (n' := 243) .int 81 rfl (Nat.le_of_ble_eq_true rfl) dX8_init_28 rfl (shp_C rfl) (Or.inl rfl) na_int (Nat.le_of_ble_eq_true rfl) (Nat.le_of_ble_eq_true rfl) rfl rfl rfl ?_
  refine c_putR 8 3 dX8_init_30 (pfX8_22 rfl rfl) rfl rfl (Nat.le_of_ble_eq_true rfl) ?_
  exact w_return rfl dX8_init_33 rfl (Nat.le_of_ble_eq_true rfl) (Nat.le_of_ble_eq_true rfl) ⟨rfl, rfl⟩
set_option maxRecDepth 100000 in
theorem i_71 {C : Cx} (Rb : Nat → Nat → Option Nat) (L : List (Nat × Nat × Nat)) (s : Sg) : mm C M_X4_init 1 2 162 72 74 [.ref 71, .ref 1] (hcb Rb L s) (fun v h => v = none ∧ h = hcb Rb ((71, 2, 73) :: (71, 1, 72) :: (71, 0, 1) :: L) s) XF := by
  refine mm_of rfl rfl (Nat.le_of_ble_eq_true rfl) ?_
  show ww C M_X4_init 1 2 162 74 _ XF 72 0 0 0 [(0, .ref 71), (1, .ref 1)] [] (hcb Rb L s)
  refine w_aload_n 0 dX4_init_0 rfl rfl ?_
  refine c_obj dX4_init_1 (obX4_3 rfl) (Nat.le_of_ble_eq_true rfl) (Nat.le_of_ble_eq_true rfl) ?_
  refine w_aload_n 0 dX4_init_4 rfl rfl ?_
  refine w_aload_n 1 dX4_init_5 rfl rfl ?_
  refine c_putR 4 0 dX4_init_6 (pfX4_9 rfl rfl) rfl rfl (Nat.le_of_ble_eq_true rfl) ?_
  refine w_aload_n 0 dX4_init_9 rfl rfl ?_
  refine x_bipush dX4_init_10 (by decide) ?_
  refine c_newarr (nx' := 73) (k' := 1) (n' := 81) .int 81 rfl (Nat.le_of_ble_eq_true rfl) dX4_init_12 rfl (shp_C rfl) (Or.inl rfl) na_int (Nat.le_of_ble_eq_true rfl) (Nat.le_of_ble_eq_true rfl) rfl rfl rfl ?_
  refine c_putR 4 1 dX4_init_14 (pfX4_15 rfl rfl) rfl rfl (Nat.le_of_ble_eq_true rfl) ?_
  refine w_aload_n 0 dX4_init_17 rfl rfl ?_
  refine x_bipush dX4_init_18 (by decide) ?_
  refine c_newarr (nx' := 74) (k' := 2) (n' := 162) .int 81 rfl (Nat.le_of_ble_eq_true rfl) dX4_init_20 rfl (shp_C rfl) (Or.inl rfl) na_int (Nat.le_of_ble_eq_true rfl) (Nat.le_of_ble_eq_true rfl) rfl rfl rfl ?_
  refine c_putR 4 2 dX4_init_22 (pfX4_19 rfl rfl) rfl rfl (Nat.le_of_ble_eq_true rfl) ?_
  exact w_return rfl dX4_init_25 rfl (Nat.le_of_ble_eq_true rfl) (Nat.le_of_ble_eq_true rfl) ⟨rfl, rfl⟩
set_option maxRecDepth 100000 in
theorem i_74 {C : Cx} (Rb : Nat → Nat → Option Nat) (L : List (Nat × Nat × Nat)) (s : Sg) : mm C M_X2_init 1 3 151 75 78 [.ref 74, .ref 1, .ref 5] (hcb Rb L s) (fun v h => v = none ∧ h = hcb Rb ((74, 4, 77) :: (74, 3, 76) :: (74, 2, 75) :: (74, 1, 5) :: (74, 0, 1) :: L) s) XF := by
  refine mm_of rfl rfl (Nat.le_of_ble_eq_true rfl) ?_
  show ww C M_X2_init 1 3 151 78 _ XF 75 0 0 0 [(0, .ref 74), (1, .ref 1), (2, .ref 5)] [] (hcb Rb L s)
  refine w_aload_n 0 dX2_init_0 rfl rfl ?_
  refine c_obj dX2_init_1 (obX2_3 rfl) (Nat.le_of_ble_eq_true rfl) (Nat.le_of_ble_eq_true rfl) ?_
  refine w_aload_n 0 dX2_init_4 rfl rfl ?_
  refine w_aload_n 1 dX2_init_5 rfl rfl ?_
  refine c_putR 2 0 dX2_init_6 (pfX2_9 rfl rfl) rfl rfl (Nat.le_of_ble_eq_true rfl) ?_
  refine w_aload_n 0 dX2_init_9 rfl rfl ?_
  refine w_aload_n 2 dX2_init_10 rfl rfl ?_
  refine c_putR 2 1 dX2_init_11 (pfX2_15 rfl rfl) rfl rfl (Nat.le_of_ble_eq_true rfl) ?_
  refine w_aload_n 0 dX2_init_14 rfl rfl ?_
  refine x_bipush dX2_init_15 (by decide) ?_
  refine c_newarr (nx' := 76) (k' := 1) (n' := 81) .int 81 rfl (Nat.le_of_ble_eq_true rfl) dX2_init_17 rfl (shp_C rfl) (Or.inl rfl) na_int (Nat.le_of_ble_eq_true rfl) (Nat.le_of_ble_eq_true rfl) rfl rfl rfl ?_
  refine c_putR 2 2 dX2_init_19 (pfX2_19 rfl rfl) rfl rfl (Nat.le_of_ble_eq_true rfl) ?_
  refine w_aload_n 0 dX2_init_22 rfl rfl ?_
  refine x_bipush dX2_init_23 (by decide) ?_
  refine c_newarr (nx' := 77) (k' := 2) (n' := 87) .int 6 rfl (Nat.le_of_ble_eq_true rfl) dX2_init_25 rfl (shp_C rfl) (Or.inl rfl) na_int (Nat.le_of_ble_eq_true rfl) (Nat.le_of_ble_eq_true rfl) rfl rfl rfl ?_
  refine c_putR 2 3 dX2_init_27 (pfX2_23 rfl rfl) rfl rfl (Nat.le_of_ble_eq_true rfl) ?_
  refine w_aload_n 0 dX2_init_30 rfl rfl ?_
  refine x_bipush dX2_init_31 (by decide) ?_
  refine c_newarr (nx' := 78) (k' := 3) (n' := 151) .int 64 rfl (Nat.le_of_ble_eq_true rfl) dX2_init_33 rfl (shp_C rfl) (Or.inl rfl) na_int (Nat.le_of_ble_eq_true rfl) (Nat.le_of_ble_eq_true rfl) rfl rfl rfl ?_
  refine c_putR 2 4 dX2_init_35 (pfX2_26 rfl rfl) rfl rfl (Nat.le_of_ble_eq_true rfl) ?_
  exact w_return rfl dX2_init_38 rfl (Nat.le_of_ble_eq_true rfl) (Nat.le_of_ble_eq_true rfl) ⟨rfl, rfl⟩
set_option maxRecDepth 100000 in
theorem i_78 {C : Cx} (Rb : Nat → Nat → Option Nat) (L : List (Nat × Nat × Nat)) (s : Sg) : mm C M_X3_init 1 1 81 79 80 [.ref 78, .ref 1, .ref 5] (hcb Rb L s) (fun v h => v = none ∧ h = hcb Rb ((78, 2, 79) :: (78, 1, 5) :: (78, 0, 1) :: L) s) XF := by
  refine mm_of rfl rfl (Nat.le_of_ble_eq_true rfl) ?_
  show ww C M_X3_init 1 1 81 80 _ XF 79 0 0 0 [(0, .ref 78), (1, .ref 1), (2, .ref 5)] [] (hcb Rb L s)
  refine w_aload_n 0 dX3_init_0 rfl rfl ?_
  refine c_obj dX3_init_1 (obX3_3 rfl) (Nat.le_of_ble_eq_true rfl) (Nat.le_of_ble_eq_true rfl) ?_
  refine w_aload_n 0 dX3_init_4 rfl rfl ?_
  refine w_aload_n 1 dX3_init_5 rfl rfl ?_
  refine c_putR 3 0 dX3_init_6 (pfX3_9 rfl rfl) rfl rfl (Nat.le_of_ble_eq_true rfl) ?_
  refine w_aload_n 0 dX3_init_9 rfl rfl ?_
  refine w_aload_n 2 dX3_init_10 rfl rfl ?_
  refine c_putR 3 1 dX3_init_11 (pfX3_15 rfl rfl) rfl rfl (Nat.le_of_ble_eq_true rfl) ?_
  refine w_aload_n 0 dX3_init_14 rfl rfl ?_
  refine x_bipush dX3_init_15 (by decide) ?_
  refine c_newarr (nx' := 80) (k' := 1) (n' := 81) .int 81 rfl (Nat.le_of_ble_eq_true rfl) dX3_init_17 rfl (shp_C rfl) (Or.inl rfl) na_int (Nat.le_of_ble_eq_true rfl) (Nat.le_of_ble_eq_true rfl) rfl rfl rfl ?_
  refine c_putR 3 2 dX3_init_19 (pfX3_19 rfl rfl) rfl rfl (Nat.le_of_ble_eq_true rfl) ?_
  exact w_return rfl dX3_init_22 rfl (Nat.le_of_ble_eq_true rfl) (Nat.le_of_ble_eq_true rfl) ⟨rfl, rfl⟩
noncomputable def Hx_starts (s : Sg) : Option Sg := bnd (Gr_fit 2 s) fun s1 => bnd (Po_begin 10 2 s1) fun s2 => some s2
theorem hx_full (s : Sg) : hcb (fun _ _ => none) [(0, 15, 78), (78, 2, 79), (78, 1, 5), (78, 0, 1), (0, 14, 74), (74, 4, 77), (74, 3, 76), (74, 2, 75), (74, 1, 5), (74, 0, 1), (0, 13, 71), (71, 2, 73), (71, 1, 72), (71, 0, 1), (0, 12, 67), (67, 3, 70), (67, 2, 69), (67, 1, 68), (67, 0, 1), (0, 11, 63), (63, 3, 66), (63, 2, 65), (63, 1, 64), (63, 0, 1), (0, 10, 56), (56, 6, 62), (56, 5, 61), (56, 4, 60), (56, 3, 59), (56, 2, 58), (56, 1, 57), (56, 0, 1), (0, 9, 52), (52, 3, 53), (53, 1, 55), (53, 0, 54), (52, 2, 5), (52, 1, 1), (52, 0, 48), (0, 8, 50), (50, 0, 51), (0, 7, 48), (48, 0, 49), (0, 6, 45), (45, 1, 47), (45, 0, 46), (0, 5, 42), (42, 1, 44), (42, 0, 43), (0, 4, 16), (17, 7, 39), (39, 1, 41), (39, 0, 40), (17, 6, 36), (36, 1, 38), (36, 0, 37), (17, 5, 33), (33, 1, 35), (33, 0, 34), (17, 4, 30), (30, 1, 32), (30, 0, 31), (17, 3, 27), (27, 1, 29), (27, 0, 28), (17, 2, 24), (24, 1, 26), (24, 0, 25), (17, 1, 21), (21, 1, 23), (21, 0, 22), (17, 0, 18), (18, 1, 20), (18, 0, 19), (16, 0, 17), (0, 3, 13), (13, 1, 15), (13, 0, 14), (0, 2, 10), (10, 1, 12), (10, 0, 11), (0, 1, 5), (5, 4, 9), (5, 3, 8), (5, 2, 7), (5, 1, 6), (5, 0, 1), (0, 0, 1), (1, 2, 4), (1, 1, 3), (1, 0, 2)] s = hp 80 s := hcb_hp _ s (by decide +kernel) (by decide +kernel)
set_option maxRecDepth 100000 in
theorem i_0 {C : Cx} (s : Sg) : ∀ o, Hx_starts s = some o → mm C M_X11_init 3 79 8178 1 80 [.ref 0] (hcb (fun _ _ => none) [] s) (fun v h => v = none ∧ h = hp 80 o) XF := by
  intro o hs
  unfold Hx_starts at hs
  refine mm_of rfl rfl (Nat.le_of_ble_eq_true rfl) ?_
  show ww C M_X11_init 3 79 8178 80 _ XF 1 0 0 0 [(0, .ref 0)] [] (hcb (fun _ _ => none) [] s)
  refine w_aload_n 0 dX11_init_0 rfl rfl ?_
  refine c_obj dX11_init_1 (obX11_1 rfl) (Nat.le_of_ble_eq_true rfl) (Nat.le_of_ble_eq_true rfl) ?_
  refine w_aload_n 0 dX11_init_4 rfl rfl ?_
  refine c_new (nx' := 2) (k' := 1) (n' := 5) 5 dX11_init_5 (shp_C rfl) (nwX11_7 rfl) (Nat.le_of_ble_eq_true rfl) (Nat.le_of_ble_eq_true rfl) rfl rfl rfl ?_
  refine w_dup dX11_init_8 rfl ?_
  refine c_init M_X5_init [] [.ref 1, .ref 0] rfl (show 1 + 3 = 4 from rfl) (show 5 + 648 = 653 from rfl) dX11_init_9 (lkX11_9 _ rfl) (Nat.le_of_ble_eq_true rfl) (Nat.le_of_ble_eq_true rfl) (Nat.le_of_ble_eq_true rfl) (Nat.le_of_ble_eq_true rfl) (i_1 (fun _ _ => none) ([]) s) ?_
  refine c_putR 11 0 dX11_init_12 (pfX11_10 rfl rfl) rfl rfl (Nat.le_of_ble_eq_true rfl) ?_
  refine w_aload_n 0 dX11_init_15 rfl rfl ?_
  refine c_new (nx' := 6) (k' := 5) (n' := 659) 7 dX11_init_16 (shp_C rfl) (nwX11_16 rfl) (Nat.le_of_ble_eq_true rfl) (Nat.le_of_ble_eq_true rfl) rfl rfl rfl ?_
  refine w_dup dX11_init_19 rfl ?_
  refine w_aload_n 0 dX11_init_20 rfl rfl ?_
  refine c_getR 11 0 (b := 1) dX11_init_21 (fxX11_10 rfl) rfl rfl (Nat.le_of_ble_eq_true rfl) rfl ?_
  refine c_init M_X7_init [.ref 1] [.ref 5, .ref 0] rfl (show 5 + 4 = 9 from rfl) (show 659 + 324 = 983 from rfl) dX11_init_24 (lkX11_18 _ rfl) (Nat.le_of_ble_eq_true rfl) (Nat.le_of_ble_eq_true rfl) (Nat.le_of_ble_eq_true rfl) (Nat.le_of_ble_eq_true rfl) (i_5 (fun _ _ => none) ((0, 0, 1) :: (1, 2, 4) :: (1, 1, 3) :: (1, 0, 2) :: []) s) ?_
  refine c_putR 11 1 dX11_init_27 (pfX11_21 rfl rfl) rfl rfl (Nat.le_of_ble_eq_true rfl) ?_
  refine w_aload_n 0 dX11_init_30 rfl rfl ?_
  refine c_new (nx' := 11) (k' := 10) (n' := 990) 9 dX11_init_31 (shp_C rfl) (nwX11_25 rfl) (Nat.le_of_ble_eq_true rfl) (Nat.le_of_ble_eq_true rfl) rfl rfl rfl ?_
  refine w_dup dX11_init_34 rfl ?_
  refine c_init M_X9_init [] [.ref 10, .ref 0] rfl (show 10 + 2 = 12 from rfl) (show 990 + 281 = 1271 from rfl) dX11_init_35 (lkX11_27 _ rfl) (Nat.le_of_ble_eq_true rfl) (Nat.le_of_ble_eq_true rfl) (Nat.le_of_ble_eq_true rfl) (Nat.le_of_ble_eq_true rfl) (i_10 (fun _ _ => none) ((0, 1, 5) :: (5, 4, 9) :: (5, 3, 8) :: (5, 2, 7) :: (5, 1, 6) :: (5, 0, 1) :: (0, 0, 1) :: (1, 2, 4) :: (1, 1, 3) :: (1, 0, 2) :: []) s) ?_
  refine c_putR 11 2 dX11_init_38 (pfX11_28 rfl rfl) rfl rfl (Nat.le_of_ble_eq_true rfl) ?_
  refine w_aload_n 0 dX11_init_41 rfl rfl ?_
  refine c_new (nx' := 14) (k' := 13) (n' := 1278) 9 dX11_init_42 (shp_C rfl) (nwX11_25 rfl) (Nat.le_of_ble_eq_true rfl) (Nat.le_of_ble_eq_true rfl) rfl rfl rfl ?_
  refine w_dup dX11_init_45 rfl ?_
  refine c_init M_X9_init [] [.ref 13, .ref 0] rfl (show 13 + 2 = 15 from rfl) (show 1278 + 281 = 1559 from rfl) dX11_init_46 (lkX11_27 _ rfl) (Nat.le_of_ble_eq_true rfl) (Nat.le_of_ble_eq_true rfl) (Nat.le_of_ble_eq_true rfl) (Nat.le_of_ble_eq_true rfl) (i_13 (fun _ _ => none) ((0, 2, 10) :: (10, 1, 12) :: (10, 0, 11) :: (0, 1, 5) :: (5, 4, 9) :: (5, 3, 8) :: (5, 2, 7) :: (5, 1, 6) :: (5, 0, 1) :: (0, 0, 1) :: (1, 2, 4) :: (1, 1, 3) :: (1, 0, 2) :: []) s) ?_
  refine c_putR 11 3 dX11_init_49 (pfX11_32 rfl rfl) rfl rfl (Nat.le_of_ble_eq_true rfl) ?_
  refine w_aload_n 0 dX11_init_52 rfl rfl ?_
  refine c_new (nx' := 17) (k' := 16) (n' := 1562) 6 dX11_init_53 (shp_C rfl) (nwX11_35 rfl) (Nat.le_of_ble_eq_true rfl) (Nat.le_of_ble_eq_true rfl) rfl rfl rfl ?_
  refine w_dup dX11_init_56 rfl ?_
  refine c_init M_X6_init [] [.ref 16, .ref 0] rfl (show 16 + 25 = 41 from rfl) (show 1562 + 2312 = 3874 from rfl) dX11_init_57 (lkX11_37 _ rfl) (Nat.le_of_ble_eq_true rfl) (Nat.le_of_ble_eq_true rfl) (Nat.le_of_ble_eq_true rfl) (Nat.le_of_ble_eq_true rfl) (i_16 (fun _ _ => none) ((0, 3, 13) :: (13, 1, 15) :: (13, 0, 14) :: (0, 2, 10) :: (10, 1, 12) :: (10, 0, 11) :: (0, 1, 5) :: (5, 4, 9) :: (5, 3, 8) :: (5, 2, 7) :: (5, 1, 6) :: (5, 0, 1) :: (0, 0, 1) :: (1, 2, 4) :: (1, 1, 3) :: (1, 0, 2) :: []) s) ?_
  refine c_putR 11 4 dX11_init_60 (pfX11_38 rfl rfl) rfl rfl (Nat.le_of_ble_eq_true rfl) ?_
  refine w_aload_n 0 dX11_init_63 rfl rfl ?_
  refine c_new (nx' := 43) (k' := 42) (n' := 3881) 9 dX11_init_64 (shp_C rfl) (nwX11_25 rfl) (Nat.le_of_ble_eq_true rfl) (Nat.le_of_ble_eq_true rfl) rfl rfl rfl ?_
  refine w_dup dX11_init_67 rfl ?_
  refine c_init M_X9_init [] [.ref 42, .ref 0] rfl (show 42 + 2 = 44 from rfl) (show 3881 + 281 = 4162 from rfl) dX11_init_68 (lkX11_27 _ rfl) (Nat.le_of_ble_eq_true rfl) (Nat.le_of_ble_eq_true rfl) (Nat.le_of_ble_eq_true rfl) (Nat.le_of_ble_eq_true rfl) (i_42 (fun _ _ => none) ((0, 4, 16) :: (17, 7, 39) :: (39, 1, 41) :: (39, 0, 40) :: (17, 6, 36) :: (36, 1, 38) :: (36, 0, 37) :: (17, 5, 33) :: (33, 1, 35) :: (33, 0, 34) :: (17, 4, 30) :: (30, 1, 32) :: (30, 0, 31) :: (17, 3, 27) :: (27, 1, 29) :: (27, 0, 28) :: (17, 2, 24) :: (24, 1, 26) :: (24, 0, 25) :: (17, 1, 21) :: (21, 1, 23) :: (21, 0, 22) :: (17, 0, 18) :: (18, 1, 20) :: (18, 0, 19) :: (16, 0, 17) :: (0, 3, 13) :: (13, 1, 15) :: (13, 0, 14) :: (0, 2, 10) :: (10, 1, 12) :: (10, 0, 11) :: (0, 1, 5) :: (5, 4, 9) :: (5, 3, 8) :: (5, 2, 7) :: (5, 1, 6) :: (5, 0, 1) :: (0, 0, 1) :: (1, 2, 4) :: (1, 1, 3) :: (1, 0, 2) :: []) s) ?_
  refine c_putR 11 5 dX11_init_71 (pfX11_42 rfl rfl) rfl rfl (Nat.le_of_ble_eq_true rfl) ?_
  refine w_aload_n 0 dX11_init_74 rfl rfl ?_
  refine c_new (nx' := 46) (k' := 45) (n' := 4169) 9 dX11_init_75 (shp_C rfl) (nwX11_25 rfl) (Nat.le_of_ble_eq_true rfl) (Nat.le_of_ble_eq_true rfl) rfl rfl rfl ?_
  refine w_dup dX11_init_78 rfl ?_
  refine c_init M_X9_init [] [.ref 45, .ref 0] rfl (show 45 + 2 = 47 from rfl) (show 4169 + 281 = 4450 from rfl) dX11_init_79 (lkX11_27 _ rfl) (Nat.le_of_ble_eq_true rfl) (Nat.le_of_ble_eq_true rfl) (Nat.le_of_ble_eq_true rfl) (Nat.le_of_ble_eq_true rfl) (i_45 (fun _ _ => none) ((0, 5, 42) :: (42, 1, 44) :: (42, 0, 43) :: (0, 4, 16) :: (17, 7, 39) :: (39, 1, 41) :: (39, 0, 40) :: (17, 6, 36) :: (36, 1, 38) :: (36, 0, 37) :: (17, 5, 33) :: (33, 1, 35) :: (33, 0, 34) :: (17, 4, 30) :: (30, 1, 32) :: (30, 0, 31) :: (17, 3, 27) :: (27, 1, 29) :: (27, 0, 28) :: (17, 2, 24) :: (24, 1, 26) :: (24, 0, 25) :: (17, 1, 21) :: (21, 1, 23) :: (21, 0, 22) :: (17, 0, 18) :: (18, 1, 20) :: (18, 0, 19) :: (16, 0, 17) :: (0, 3, 13) :: (13, 1, 15) :: (13, 0, 14) :: (0, 2, 10) :: (10, 1, 12) :: (10, 0, 11) :: (0, 1, 5) :: (5, 4, 9) :: (5, 3, 8) :: (5, 2, 7) :: (5, 1, 6) :: (5, 0, 1) :: (0, 0, 1) :: (1, 2, 4) :: (1, 1, 3) :: (1, 0, 2) :: []) s) ?_
  refine c_putR 11 6 dX11_init_82 (pfX11_45 rfl rfl) rfl rfl (Nat.le_of_ble_eq_true rfl) ?_
  refine w_aload_n 0 dX11_init_85 rfl rfl ?_
  refine c_new (nx' := 49) (k' := 48) (n' := 4452) 1 dX11_init_86 (shp_C rfl) (nwX11_48 rfl) (Nat.le_of_ble_eq_true rfl) (Nat.le_of_ble_eq_true rfl) rfl rfl rfl ?_
  refine w_dup dX11_init_89 rfl ?_
  refine x_sipush dX11_init_90 (by decide) ?_
  refine c_init M_X1_init [vi 400] [.ref 48, .ref 0] rfl (show 48 + 1 = 49 from rfl) (show 4452 + 400 = 4852 from rfl) dX11_init_93 (lkX11_50 _ rfl) (Nat.le_of_ble_eq_true rfl) (Nat.le_of_ble_eq_true rfl) (Nat.le_of_ble_eq_true rfl) (Nat.le_of_ble_eq_true rfl) (i_48 (fun _ _ => none) ((0, 6, 45) :: (45, 1, 47) :: (45, 0, 46) :: (0, 5, 42) :: (42, 1, 44) :: (42, 0, 43) :: (0, 4, 16) :: (17, 7, 39) :: (39, 1, 41) :: (39, 0, 40) :: (17, 6, 36) :: (36, 1, 38) :: (36, 0, 37) :: (17, 5, 33) :: (33, 1, 35) :: (33, 0, 34) :: (17, 4, 30) :: (30, 1, 32) :: (30, 0, 31) :: (17, 3, 27) :: (27, 1, 29) :: (27, 0, 28) :: (17, 2, 24) :: (24, 1, 26) :: (24, 0, 25) :: (17, 1, 21) :: (21, 1, 23) :: (21, 0, 22) :: (17, 0, 18) :: (18, 1, 20) :: (18, 0, 19) :: (16, 0, 17) :: (0, 3, 13) :: (13, 1, 15) :: (13, 0, 14) :: (0, 2, 10) :: (10, 1, 12) :: (10, 0, 11) :: (0, 1, 5) :: (5, 4, 9) :: (5, 3, 8) :: (5, 2, 7) :: (5, 1, 6) :: (5, 0, 1) :: (0, 0, 1) :: (1, 2, 4) :: (1, 1, 3) :: (1, 0, 2) :: []) s) ?_
  refine c_putR 11 7 dX11_init_96 (pfX11_53 rfl rfl) rfl rfl (Nat.le_of_ble_eq_true rfl) ?_
  refine w_aload_n 0 dX11_init_99 rfl rfl ?_
  refine c_new (nx' := 51) (k' := 50) (n' := 4854) 1 dX11_init_100 (shp_C rfl) (nwX11_48 rfl) (Nat.le_of_ble_eq_true rfl) (Nat.le_of_ble_eq_true rfl) rfl rfl rfl ?_
  refine w_dup dX11_init_103 rfl ?_
  refine x_bipush dX11_init_104 (by decide) ?_
  refine c_init M_X1_init [vi 9] [.ref 50, .ref 0] rfl (show 50 + 1 = 51 from rfl) (show 4854 + 9 = 4863 from rfl) dX11_init_106 (lkX11_50 _ rfl) (Nat.le_of_ble_eq_true rfl) (Nat.le_of_ble_eq_true rfl) (Nat.le_of_ble_eq_true rfl) (Nat.le_of_ble_eq_true rfl) (i_50 (fun _ _ => none) ((0, 7, 48) :: (48, 0, 49) :: (0, 6, 45) :: (45, 1, 47) :: (45, 0, 46) :: (0, 5, 42) :: (42, 1, 44) :: (42, 0, 43) :: (0, 4, 16) :: (17, 7, 39) :: (39, 1, 41) :: (39, 0, 40) :: (17, 6, 36) :: (36, 1, 38) :: (36, 0, 37) :: (17, 5, 33) :: (33, 1, 35) :: (33, 0, 34) :: (17, 4, 30) :: (30, 1, 32) :: (30, 0, 31) :: (17, 3, 27) :: (27, 1, 29) :: (27, 0, 28) :: (17, 2, 24) :: (24, 1, 26) :: (24, 0, 25) :: (17, 1, 21) :: (21, 1, 23) :: (21, 0, 22) :: (17, 0, 18) :: (18, 1, 20) :: (18, 0, 19) :: (16, 0, 17) :: (0, 3, 13) :: (13, 1, 15) :: (13, 0, 14) :: (0, 2, 10) :: (10, 1, 12) :: (10, 0, 11) :: (0, 1, 5) :: (5, 4, 9) :: (5, 3, 8) :: (5, 2, 7) :: (5, 1, 6) :: (5, 0, 1) :: (0, 0, 1) :: (1, 2, 4) :: (1, 1, 3) :: (1, 0, 2) :: []) s) ?_
  refine c_putR 11 8 dX11_init_109 (pfX11_57 rfl rfl) rfl rfl (Nat.le_of_ble_eq_true rfl) ?_
  refine w_aload_n 0 dX11_init_112 rfl rfl ?_
  refine c_new (nx' := 53) (k' := 52) (n' := 4874) 10 dX11_init_113 (shp_C rfl) (nwX11_60 rfl) (Nat.le_of_ble_eq_true rfl) (Nat.le_of_ble_eq_true rfl) rfl rfl rfl ?_
  refine w_dup dX11_init_116 rfl ?_
  refine w_aload_n 0 dX11_init_117 rfl rfl ?_
  refine c_getR 11 7 (b := 48) dX11_init_118 (fxX11_53 rfl) rfl rfl (Nat.le_of_ble_eq_true rfl) rfl ?_
  refine w_aload_n 0 dX11_init_121 rfl rfl ?_
  refine c_getR 11 0 (b := 1) dX11_init_122 (fxX11_10 rfl) rfl rfl (Nat.le_of_ble_eq_true rfl) rfl ?_
  refine w_aload_n 0 dX11_init_125 rfl rfl ?_
  refine c_getR 11 1 (b := 5) dX11_init_126 (fxX11_21 rfl) rfl rfl (Nat.le_of_ble_eq_true rfl) rfl ?_
  refine c_init M_X10_init [.ref 48, .ref 1, .ref 5] [.ref 52, .ref 0] rfl (show 52 + 3 = 55 from rfl) (show 4874 + 288 = 5162 from rfl) dX11_init_129 (lkX11_62 _ rfl) (Nat.le_of_ble_eq_true rfl) (Nat.le_of_ble_eq_true rfl) (Nat.le_of_ble_eq_true rfl) (Nat.le_of_ble_eq_true rfl) (i_52 (fun _ _ => none) ((0, 8, 50) :: (50, 0, 51) :: (0, 7, 48) :: (48, 0, 49) :: (0, 6, 45) :: (45, 1, 47) :: (45, 0, 46) :: (0, 5, 42) :: (42, 1, 44) :: (42, 0, 43) :: (0, 4, 16) :: (17, 7, 39) :: (39, 1, 41) :: (39, 0, 40) :: (17, 6, 36) :: (36, 1, 38) :: (36, 0, 37) :: (17, 5, 33) :: (33, 1, 35) :: (33, 0, 34) :: (17, 4, 30) :: (30, 1, 32) :: (30, 0, 31) :: (17, 3, 27) :: (27, 1, 29) :: (27, 0, 28) :: (17, 2, 24) :: (24, 1, 26) :: (24, 0, 25) :: (17, 1, 21) :: (21, 1, 23) :: (21, 0, 22) :: (17, 0, 18) :: (18, 1, 20) :: (18, 0, 19) :: (16, 0, 17) :: (0, 3, 13) :: (13, 1, 15) :: (13, 0, 14) :: (0, 2, 10) :: (10, 1, 12) :: (10, 0, 11) :: (0, 1, 5) :: (5, 4, 9) :: (5, 3, 8) :: (5, 2, 7) :: (5, 1, 6) :: (5, 0, 1) :: (0, 0, 1) :: (1, 2, 4) :: (1, 1, 3) :: (1, 0, 2) :: []) s) ?_
  refine c_putR 11 9 dX11_init_132 (pfX11_65 rfl rfl) rfl rfl (Nat.le_of_ble_eq_true rfl) ?_
  refine w_aload_n 0 dX11_init_135 rfl rfl ?_
  refine c_new (nx' := 57) (k' := 56) (n' := 5170) 0 dX11_init_136 (shp_C rfl) (nwX11_69 rfl) (Nat.le_of_ble_eq_true rfl) (Nat.le_of_ble_eq_true rfl) rfl rfl rfl ?_
  refine w_dup dX11_init_139 rfl ?_
  refine w_aload_n 0 dX11_init_140 rfl rfl ?_
  refine c_getR 11 0 (b := 1) dX11_init_141 (fxX11_10 rfl) rfl rfl (Nat.le_of_ble_eq_true rfl) rfl ?_
  refine c_init M_X0_init [.ref 1] [.ref 56, .ref 0] rfl (show 56 + 6 = 62 from rfl) (show 5170 + 2106 = 7276 from rfl) dX11_init_144 (lkX11_71 _ rfl) (Nat.le_of_ble_eq_true rfl) (Nat.le_of_ble_eq_true rfl) (Nat.le_of_ble_eq_true rfl) (Nat.le_of_ble_eq_true rfl) (i_56 (fun _ _ => none) ((0, 9, 52) :: (52, 3, 53) :: (53, 1, 55) :: (53, 0, 54) :: (52, 2, 5) :: (52, 1, 1) :: (52, 0, 48) :: (0, 8, 50) :: (50, 0, 51) :: (0, 7, 48) :: (48, 0, 49) :: (0, 6, 45) :: (45, 1, 47) :: (45, 0, 46) :: (0, 5, 42) :: (42, 1, 44) :: (42, 0, 43) :: (0, 4, 16) :: (17, 7, 39) :: (39, 1, 41) :: (39, 0, 40) :: (17, 6, 36) :: (36, 1, 38) :: (36, 0, 37) :: (17, 5, 33) :: (33, 1, 35) :: (33, 0, 34) :: (17, 4, 30) :: (30, 1, 32) :: (30, 0, 31) :: (17, 3, 27) :: (27, 1, 29) :: (27, 0, 28) :: (17, 2, 24) :: (24, 1, 26) :: (24, 0, 25) :: (17, 1, 21) :: (21, 1, 23) :: (21, 0, 22) :: (17, 0, 18) :: (18, 1, 20) :: (18, 0, 19) :: (16, 0, 17) :: (0, 3, 13) :: (13, 1, 15) :: (13, 0, 14) :: (0, 2, 10) :: (10, 1, 12) :: (10, 0, 11) :: (0, 1, 5) :: (5, 4, 9) :: (5, 3, 8) :: (5, 2, 7) :: (5, 1, 6) :: (5, 0, 1) :: (0, 0, 1) :: (1, 2, 4) :: (1, 1, 3) :: (1, 0, 2) :: []) s) ?_
  refine c_putR 11 10 dX11_init_147 (pfX11_72 rfl rfl) rfl rfl (Nat.le_of_ble_eq_true rfl) ?_
  refine w_aload_n 0 dX11_init_150 rfl rfl ?_
  refine c_new (nx' := 64) (k' := 63) (n' := 7280) 8 dX11_init_151 (shp_C rfl) (nwX11_76 rfl) (Nat.le_of_ble_eq_true rfl) (Nat.le_of_ble_eq_true rfl) rfl rfl rfl ?_
  refine w_dup dX11_init_154 rfl ?_
  refine w_aload_n 0 dX11_init_155 rfl rfl ?_
  refine c_getR 11 0 (b := 1) dX11_init_156 (fxX11_10 rfl) rfl rfl (Nat.le_of_ble_eq_true rfl) rfl ?_
  refine c_init M_X8_init [.ref 1] [.ref 63, .ref 0] rfl (show 63 + 3 = 66 from rfl) (show 7280 + 243 = 7523 from rfl) dX11_init_159 (lkX11_78 _ rfl) (Nat.le_of_ble_eq_true rfl) (Nat.le_of_ble_eq_true rfl) (Nat.le_of_ble_eq_true rfl) (Nat.le_of_ble_eq_true rfl) (i_63 (fun _ _ => none) ((0, 10, 56) :: (56, 6, 62) :: (56, 5, 61) :: (56, 4, 60) :: (56, 3, 59) :: (56, 2, 58) :: (56, 1, 57) :: (56, 0, 1) :: (0, 9, 52) :: (52, 3, 53) :: (53, 1, 55) :: (53, 0, 54) :: (52, 2, 5) :: (52, 1, 1) :: (52, 0, 48) :: (0, 8, 50) :: (50, 0, 51) :: (0, 7, 48) :: (48, 0, 49) :: (0, 6, 45) :: (45, 1, 47) :: (45, 0, 46) :: (0, 5, 42) :: (42, 1, 44) :: (42, 0, 43) :: (0, 4, 16) :: (17, 7, 39) :: (39, 1, 41) :: (39, 0, 40) :: (17, 6, 36) :: (36, 1, 38) :: (36, 0, 37) :: (17, 5, 33) :: (33, 1, 35) :: (33, 0, 34) :: (17, 4, 30) :: (30, 1, 32) :: (30, 0, 31) :: (17, 3, 27) :: (27, 1, 29) :: (27, 0, 28) :: (17, 2, 24) :: (24, 1, 26) :: (24, 0, 25) :: (17, 1, 21) :: (21, 1, 23) :: (21, 0, 22) :: (17, 0, 18) :: (18, 1, 20) :: (18, 0, 19) :: (16, 0, 17) :: (0, 3, 13) :: (13, 1, 15) :: (13, 0, 14) :: (0, 2, 10) :: (10, 1, 12) :: (10, 0, 11) :: (0, 1, 5) :: (5, 4, 9) :: (5, 3, 8) :: (5, 2, 7) :: (5, 1, 6) :: (5, 0, 1) :: (0, 0, 1) :: (1, 2, 4) :: (1, 1, 3) :: (1, 0, 2) :: []) s) ?_
  refine c_putR 11 11 dX11_init_162 (pfX11_79 rfl rfl) rfl rfl (Nat.le_of_ble_eq_true rfl) ?_
  refine w_aload_n 0 dX11_init_165 rfl rfl ?_
  refine c_new (nx' := 68) (k' := 67) (n' := 7527) 8 dX11_init_166 (shp_C rfl) (nwX11_76 rfl) (Nat.le_of_ble_eq_true rfl) (Nat.le_of_ble_eq_true rfl) rfl rfl rfl ?_
  refine w_dup dX11_init_169 rfl ?_
  refine w_aload_n 0 dX11_init_170 rfl rfl ?_
  refine c_getR 11 0 (b := 1) dX11_init_171 (fxX11_10 rfl) rfl rfl (Nat.le_of_ble_eq_true rfl) rfl ?_
  refine c_init M_X8_init [.ref 1] [.ref 67, .ref 0] rfl (show 67 + 3 = 70 from rfl) (show 7527 + 243 = 7770 from rfl) dX11_init_174 (lkX11_78 _ rfl) (Nat.le_of_ble_eq_true rfl) (Nat.le_of_ble_eq_true rfl) (Nat.le_of_ble_eq_true rfl) (Nat.le_of_ble_eq_true rfl) (i_67 (fun _ _ => none) ((0, 11, 63) :: (63, 3, 66) :: (63, 2, 65) :: (63, 1, 64) :: (63, 0, 1) :: (0, 10, 56) :: (56, 6, 62) :: (56, 5, 61) :: (56, 4, 60) :: (56, 3, 59) :: (56, 2, 58) :: (56, 1, 57) :: (56, 0, 1) :: (0, 9, 52) :: (52, 3, 53) :: (53, 1, 55) :: (53, 0, 54) :: (52, 2, 5) :: (52, 1, 1) :: (52, 0, 48) :: (0, 8, 50) :: (50, 0, 51) :: (0, 7, 48) :: (48, 0, 49) :: (0, 6, 45) :: (45, 1, 47) :: (45, 0, 46) :: (0, 5, 42) :: (42, 1, 44) :: (42, 0, 43) :: (0, 4, 16) :: (17, 7, 39) :: (39, 1, 41) :: (39, 0, 40) :: (17, 6, 36) :: (36, 1, 38) :: (36, 0, 37) :: (17, 5, 33) :: (33, 1, 35) :: (33, 0, 34) :: (17, 4, 30) :: (30, 1, 32) :: (30, 0, 31) :: (17, 3, 27) :: (27, 1, 29) :: (27, 0, 28) :: (17, 2, 24) :: (24, 1, 26) :: (24, 0, 25) :: (17, 1, 21) :: (21, 1, 23) :: (21, 0, 22) :: (17, 0, 18) :: (18, 1, 20) :: (18, 0, 19) :: (16, 0, 17) :: (0, 3, 13) :: (13, 1, 15) :: (13, 0, 14) :: (0, 2, 10) :: (10, 1, 12) :: (10, 0, 11) :: (0, 1, 5) :: (5, 4, 9) :: (5, 3, 8) :: (5, 2, 7) :: (5, 1, 6) :: (5, 0, 1) :: (0, 0, 1) :: (1, 2, 4) :: (1, 1, 3) :: (1, 0, 2) :: []) s) ?_
  refine c_putR 11 12 dX11_init_177 (pfX11_83 rfl rfl) rfl rfl (Nat.le_of_ble_eq_true rfl) ?_
  refine w_aload_n 0 dX11_init_180 rfl rfl ?_
  refine c_new (nx' := 72) (k' := 71) (n' := 7774) 4 dX11_init_181 (shp_C rfl) (nwX11_86 rfl) (Nat.le_of_ble_eq_true rfl) (Nat.le_of_ble_eq_true rfl) rfl rfl rfl ?_
  refine w_dup dX11_init_184 rfl ?_
  refine w_aload_n 0 dX11_init_185 rfl rfl ?_
  refine c_getR 11 0 (b := 1) dX11_init_186 (fxX11_10 rfl) rfl rfl (Nat.le_of_ble_eq_true rfl) rfl ?_
  refine c_init M_X4_init [.ref 1] [.ref 71, .ref 0] rfl (show 71 + 2 = 73 from rfl) (show 7774 + 162 = 7936 from rfl) dX11_init_189 (lkX11_88 _ rfl) (Nat.le_of_ble_eq_true rfl) (Nat.le_of_ble_eq_true rfl) (Nat.le_of_ble_eq_true rfl) (Nat.le_of_ble_eq_true rfl) (i_71 (fun _ _ => none) ((0, 12, 67) :: (67, 3, 70) :: (67, 2, 69) :: (67, 1, 68) :: (67, 0, 1) :: (0, 11, 63) :: (63, 3, 66) :: (63, 2, 65) :: (63, 1, 64) :: (63, 0, 1) :: (0, 10, 56) :: (56, 6, 62) :: (56, 5, 61) :: (56, 4, 60) :: (56, 3, 59) :: (56, 2, 58) :: (56, 1, 57) :: (56, 0, 1) :: (0, 9, 52) :: (52, 3, 53) :: (53, 1, 55) :: (53, 0, 54) :: (52, 2, 5) :: (52, 1, 1) :: (52, 0, 48) :: (0, 8, 50) :: (50, 0, 51) :: (0, 7, 48) :: (48, 0, 49) :: (0, 6, 45) :: (45, 1, 47) :: (45, 0, 46) :: (0, 5, 42) :: (42, 1, 44) :: (42, 0, 43) :: (0, 4, 16) :: (17, 7, 39) :: (39, 1, 41) :: (39, 0, 40) :: (17, 6, 36) :: (36, 1, 38) :: (36, 0, 37) :: (17, 5, 33) :: (33, 1, 35) :: (33, 0, 34) :: (17, 4, 30) :: (30, 1, 32) :: (30, 0, 31) :: (17, 3, 27) :: (27, 1, 29) :: (27, 0, 28) :: (17, 2, 24) :: (24, 1, 26) :: (24, 0, 25) :: (17, 1, 21) :: (21, 1, 23) :: (21, 0, 22) :: (17, 0, 18) :: (18, 1, 20) :: (18, 0, 19) :: (16, 0, 17) :: (0, 3, 13) :: (13, 1, 15) :: (13, 0, 14) :: (0, 2, 10) :: (10, 1, 12) :: (10, 0, 11) :: (0, 1, 5) :: (5, 4, 9) :: (5, 3, 8) :: (5, 2, 7) :: (5, 1, 6) :: (5, 0, 1) :: (0, 0, 1) :: (1, 2, 4) :: (1, 1, 3) :: (1, 0, 2) :: []) s) ?_
  refine c_putR 11 13 dX11_init_192 (pfX11_89 rfl rfl) rfl rfl (Nat.le_of_ble_eq_true rfl) ?_
  refine w_aload_n 0 dX11_init_195 rfl rfl ?_
  refine c_new (nx' := 75) (k' := 74) (n' := 7942) 2 dX11_init_196 (shp_C rfl) (nwX11_93 rfl) (Nat.le_of_ble_eq_true rfl) (Nat.le_of_ble_eq_true rfl) rfl rfl rfl ?_
  refine w_dup dX11_init_199 rfl ?_
  refine w_aload_n 0 dX11_init_200 rfl rfl ?_
  refine c_getR 11 0 (b := 1) dX11_init_201 (fxX11_10 rfl) rfl rfl (Nat.le_of_ble_eq_true rfl) rfl ?_
  refine w_aload_n 0 dX11_init_204 rfl rfl ?_
  refine c_getR 11 1 (b := 5) dX11_init_205 (fxX11_21 rfl) rfl rfl (Nat.le_of_ble_eq_true rfl) rfl ?_
  refine c_init M_X2_init [.ref 1, .ref 5] [.ref 74, .ref 0] rfl (show 74 + 3 = 77 from rfl) (show 7942 + 151 = 8093 from rfl) dX11_init_208 (lkX11_95 _ rfl) (Nat.le_of_ble_eq_true rfl) (Nat.le_of_ble_eq_true rfl) (Nat.le_of_ble_eq_true rfl) (Nat.le_of_ble_eq_true rfl) (i_74 (fun _ _ => none) ((0, 13, 71) :: (71, 2, 73) :: (71, 1, 72) :: (71, 0, 1) :: (0, 12, 67) :: (67, 3, 70) :: (67, 2, 69) :: (67, 1, 68) :: (67, 0, 1) :: (0, 11, 63) :: (63, 3, 66) :: (63, 2, 65) :: (63, 1, 64) :: (63, 0, 1) :: (0, 10, 56) :: (56, 6, 62) :: (56, 5, 61) :: (56, 4, 60) :: (56, 3, 59) :: (56, 2, 58) :: (56, 1, 57) :: (56, 0, 1) :: (0, 9, 52) :: (52, 3, 53) :: (53, 1, 55) :: (53, 0, 54) :: (52, 2, 5) :: (52, 1, 1) :: (52, 0, 48) :: (0, 8, 50) :: (50, 0, 51) :: (0, 7, 48) :: (48, 0, 49) :: (0, 6, 45) :: (45, 1, 47) :: (45, 0, 46) :: (0, 5, 42) :: (42, 1, 44) :: (42, 0, 43) :: (0, 4, 16) :: (17, 7, 39) :: (39, 1, 41) :: (39, 0, 40) :: (17, 6, 36) :: (36, 1, 38) :: (36, 0, 37) :: (17, 5, 33) :: (33, 1, 35) :: (33, 0, 34) :: (17, 4, 30) :: (30, 1, 32) :: (30, 0, 31) :: (17, 3, 27) :: (27, 1, 29) :: (27, 0, 28) :: (17, 2, 24) :: (24, 1, 26) :: (24, 0, 25) :: (17, 1, 21) :: (21, 1, 23) :: (21, 0, 22) :: (17, 0, 18) :: (18, 1, 20) :: (18, 0, 19) :: (16, 0, 17) :: (0, 3, 13) :: (13, 1, 15) :: (13, 0, 14) :: (0, 2, 10) :: (10, 1, 12) :: (10, 0, 11) :: (0, 1, 5) :: (5, 4, 9) :: (5, 3, 8) :: (5, 2, 7) :: (5, 1, 6) :: (5, 0, 1) :: (0, 0, 1) :: (1, 2, 4) :: (1, 1, 3) :: (1, 0, 2) :: []) s) ?_
  refine c_putR 11 14 dX11_init_211 (pfX11_98 rfl rfl) rfl rfl (Nat.le_of_ble_eq_true rfl) ?_
  refine w_aload_n 0 dX11_init_214 rfl rfl ?_
  refine c_new (nx' := 79) (k' := 78) (n' := 8097) 3 dX11_init_215 (shp_C rfl) (nwX11_102 rfl) (Nat.le_of_ble_eq_true rfl) (Nat.le_of_ble_eq_true rfl) rfl rfl rfl ?_
  refine w_dup dX11_init_218 rfl ?_
  refine w_aload_n 0 dX11_init_219 rfl rfl ?_
  refine c_getR 11 0 (b := 1) dX11_init_220 (fxX11_10 rfl) rfl rfl (Nat.le_of_ble_eq_true rfl) rfl ?_
  refine w_aload_n 0 dX11_init_223 rfl rfl ?_
  refine c_getR 11 1 (b := 5) dX11_init_224 (fxX11_21 rfl) rfl rfl (Nat.le_of_ble_eq_true rfl) rfl ?_
  refine c_init M_X3_init [.ref 1, .ref 5] [.ref 78, .ref 0] rfl (show 78 + 1 = 79 from rfl) (show 8097 + 81 = 8178 from rfl) dX11_init_227 (lkX11_104 _ rfl) (Nat.le_of_ble_eq_true rfl) (Nat.le_of_ble_eq_true rfl) (Nat.le_of_ble_eq_true rfl) (Nat.le_of_ble_eq_true rfl) (i_78 (fun _ _ => none) ((0, 14, 74) :: (74, 4, 77) :: (74, 3, 76) :: (74, 2, 75) :: (74, 1, 5) :: (74, 0, 1) :: (0, 13, 71) :: (71, 2, 73) :: (71, 1, 72) :: (71, 0, 1) :: (0, 12, 67) :: (67, 3, 70) :: (67, 2, 69) :: (67, 1, 68) :: (67, 0, 1) :: (0, 11, 63) :: (63, 3, 66) :: (63, 2, 65) :: (63, 1, 64) :: (63, 0, 1) :: (0, 10, 56) :: (56, 6, 62) :: (56, 5, 61) :: (56, 4, 60) :: (56, 3, 59) :: (56, 2, 58) :: (56, 1, 57) :: (56, 0, 1) :: (0, 9, 52) :: (52, 3, 53) :: (53, 1, 55) :: (53, 0, 54) :: (52, 2, 5) :: (52, 1, 1) :: (52, 0, 48) :: (0, 8, 50) :: (50, 0, 51) :: (0, 7, 48) :: (48, 0, 49) :: (0, 6, 45) :: (45, 1, 47) :: (45, 0, 46) :: (0, 5, 42) :: (42, 1, 44) :: (42, 0, 43) :: (0, 4, 16) :: (17, 7, 39) :: (39, 1, 41) :: (39, 0, 40) :: (17, 6, 36) :: (36, 1, 38) :: (36, 0, 37) :: (17, 5, 33) :: (33, 1, 35) :: (33, 0, 34) :: (17, 4, 30) :: (30, 1, 32) :: (30, 0, 31) :: (17, 3, 27) :: (27, 1, 29) :: (27, 0, 28) :: (17, 2, 24) :: (24, 1, 26) :: (24, 0, 25) :: (17, 1, 21) :: (21, 1, 23) :: (21, 0, 22) :: (17, 0, 18) :: (18, 1, 20) :: (18, 0, 19) :: (16, 0, 17) :: (0, 3, 13) :: (13, 1, 15) :: (13, 0, 14) :: (0, 2, 10) :: (10, 1, 12) :: (10, 0, 11) :: (0, 1, 5) :: (5, 4, 9) :: (5, 3, 8) :: (5, 2, 7) :: (5, 1, 6) :: (5, 0, 1) :: (0, 0, 1) :: (1, 2, 4) :: (1, 1, 3) :: (1, 0, 2) :: []) s) ?_
  refine c_putR 11 15 dX11_init_230 (pfX11_105 rfl rfl) rfl rfl (Nat.le_of_ble_eq_true rfl) ?_
  show ww C M_X11_init 3 79 8178 80 _ XF 80 79 8178 233 [(0, .ref 0)] [] (hcb (fun _ _ => none) [(0, 15, 78), (78, 2, 79), (78, 1, 5), (78, 0, 1), (0, 14, 74), (74, 4, 77), (74, 3, 76), (74, 2, 75), (74, 1, 5), (74, 0, 1), (0, 13, 71), (71, 2, 73), (71, 1, 72), (71, 0, 1), (0, 12, 67), (67, 3, 70), (67, 2, 69), (67, 1, 68), (67, 0, 1), (0, 11, 63), (63, 3, 66), (63, 2, 65), (63, 1, 64), (63, 0, 1), (0, 10, 56), (56, 6, 62), (56, 5, 61), (56, 4, 60), (56, 3, 59), (56, 2, 58), (56, 1, 57), (56, 0, 1), (0, 9, 52), (52, 3, 53), (53, 1, 55), (53, 0, 54), (52, 2, 5), (52, 1, 1), (52, 0, 48), (0, 8, 50), (50, 0, 51), (0, 7, 48), (48, 0, 49), (0, 6, 45), (45, 1, 47), (45, 0, 46), (0, 5, 42), (42, 1, 44), (42, 0, 43), (0, 4, 16), (17, 7, 39), (39, 1, 41), (39, 0, 40), (17, 6, 36), (36, 1, 38), (36, 0, 37), (17, 5, 33), (33, 1, 35), (33, 0, 34), (17, 4, 30), (30, 1, 32), (30, 0, 31), (17, 3, 27), (27, 1, 29), (27, 0, 28), (17, 2, 24), (24, 1, 26), (24, 0, 25), (17, 1, 21), (21, 1, 23), (21, 0, 22), (17, 0, 18), (18, 1, 20), (18, 0, 19), (16, 0, 17), (0, 3, 13), (13, 1, 15), (13, 0, 14), (0, 2, 10), (10, 1, 12), (10, 0, 11), (0, 1, 5), (5, 4, 9), (5, 3, 8), (5, 2, 7), (5, 1, 6), (5, 0, 1), (0, 0, 1), (1, 2, 4), (1, 1, 3), (1, 0, 2)] s)
  rw [hx_full s]
  refine w_aload_n 0 dX11_init_233 rfl rfl ?_
  refine x_getR 11 0 (b := 1) dX11_init_234 (fxX11_10 rfl) rfl rfl (Nat.le_of_ble_eq_true rfl) rfl ?_
  refine x_iconst dX11_init_237 ?_
  refine x_V_V M_X5_fit [vi 2] [] hs rfl dX11_init_238 (lkX11_109 _ rfl) (Nat.le_of_ble_eq_true rfl) rfl rfl (Nat.le_of_ble_eq_true rfl) (Nat.le_of_ble_eq_true rfl) (Nat.le_of_ble_eq_true rfl) (Nat.le_of_ble_eq_true rfl) (c_Gr_fit (Nat.le_refl 80) 2 s) (fun s1 hs1 hs => ?_)
  refine w_aload_n 0 dX11_init_241 rfl rfl ?_
  refine x_getR 11 2 (b := 10) dX11_init_242 (fxX11_28 rfl) rfl rfl (Nat.le_of_ble_eq_true rfl) rfl ?_
  refine x_iconst dX11_init_245 ?_
  refine x_V_V M_X9_begin [vi 2] [] hs rfl dX11_init_246 (lkX11_112 _ rfl) (Nat.le_of_ble_eq_true rfl) rfl rfl (Nat.le_of_ble_eq_true rfl) (Nat.le_of_ble_eq_true rfl) (Nat.le_of_ble_eq_true rfl) (Nat.le_of_ble_eq_true rfl) (c_Po_begin (Nat.le_refl 80) 10 (show 10 ∈ posL by decide) 2 s1) (fun s2 hs2 hs => ?_)
  cases hs
  exact w_return rfl dX11_init_249 rfl (Nat.le_of_ble_eq_true rfl) (Nat.le_of_ble_eq_true rfl) ⟨rfl, rfl⟩


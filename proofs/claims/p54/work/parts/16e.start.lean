theorem lv_46 {M : Mk} (h : (mY M).cls = RL) : LKV M MJ_bI 46 1 := ⟨lk0J_bI, by rw [h]; exact (lw_all_mem (List.mem_append_right _ (List.mem_of_getElem? (i := 581) (by decide +kernel))) (by decide +kernel)), (lw_all_mem (List.mem_append_right _ (List.mem_of_getElem? (i := 582) (by decide +kernel))) (by decide +kernel)), (lw_all_mem (List.mem_append_right _ (List.mem_of_getElem? (i := 583) (by decide +kernel))) (by decide +kernel))⟩
theorem lv_53 {M : Mk} (h : (mY M).cls = RL) : LKV M MJ_bS 53 1 := ⟨lk0J_bS, by rw [h]; exact (lw_all_mem (List.mem_append_right _ (List.mem_of_getElem? (i := 608) (by decide +kernel))) (by decide +kernel)), (lw_all_mem (List.mem_append_right _ (List.mem_of_getElem? (i := 460) (by decide +kernel))) (by decide +kernel)), (lw_all_mem (List.mem_append_right _ (List.mem_of_getElem? (i := 461) (by decide +kernel))) (by decide +kernel))⟩
theorem lv_60 {M : Mk} (h : (mY M).cls = RL) : LKV M MJ_bC 60 1 := ⟨lk0J_bC, by rw [h]; exact (lw_all_mem (List.mem_append_right _ (List.mem_of_getElem? (i := 611) (by decide +kernel))) (by decide +kernel)), (lw_all_mem (List.mem_append_right _ (List.mem_of_getElem? (i := 612) (by decide +kernel))) (by decide +kernel)), (lw_all_mem (List.mem_append_right _ (List.mem_of_getElem? (i := 613) (by decide +kernel))) (by decide +kernel))⟩
theorem lv_67 {M : Mk} (h : (mY M).cls = RL) : LKV M MJ_toS 67 0 := ⟨lk0J_toS, by rw [h]; exact (lw_all_mem (List.mem_append_right _ (List.mem_of_getElem? (i := 635) (by decide +kernel))) (by decide +kernel)), (lw_all_mem (List.mem_append_right _ (List.mem_of_getElem? (i := 636) (by decide +kernel))) (by decide +kernel)), (lw_all_mem (List.mem_append_right _ (List.mem_of_getElem? (i := 637) (by decide +kernel))) (by decide +kernel))⟩
theorem ls_33 {M : Mk} (h : (mY M).cls = RL) : LKS M M_L_cell 33 2 := ⟨lk0_L_cell, by rw [h]; exact (lw_all_mem (List.mem_append_right _ (List.mem_of_getElem? (i := 416) (by decide +kernel))) (by decide +kernel)), (lw_all_mem (List.mem_append_right _ (List.mem_of_getElem? (i := 417) (by decide +kernel))) (by decide +kernel)), h.symm⟩
theorem ls_71 {M : Mk} (h : (mY M).cls = RL) : LKS M M_L_load 71 2 := ⟨lk0_L_load, by rw [h]; exact (lw_all_mem (List.mem_append_right _ (List.mem_of_getElem? (i := 695) (by decide +kernel))) (by decide +kernel)), (lw_all_mem (List.mem_append_right _ (List.mem_of_getElem? (i := 696) (by decide +kernel))) (by decide +kernel)), h.symm⟩
theorem nkL_39 {M : Mk} (h : (mY M).cls = RL) : Cond.classLink (mY M).cls 39 (cR 13) ∈ lw_all ∧ Cond.instantiable (cR 13) (cn 13) ∈ lw_all ∧ Cond.initialized (cR 13) ∈ lw_all := ⟨by rw [h]; exact (lw_all_mem (List.mem_append_right _ (List.mem_of_getElem? (i := 423) (by decide +kernel))) (by decide +kernel)), (lw_all_mem (List.mem_append_right _ (List.mem_of_getElem? (i := 424) (by decide +kernel))) (by decide +kernel)), (lw_all_mem (List.mem_append_right _ (List.mem_of_getElem? (i := 15) (by decide +kernel))) (by decide +kernel))⟩
theorem li_43 {M : Mk} (h : (mY M).cls = RL) : LKI M MJ_sNew 43 1 := ⟨lk0J_sNew, by rw [h]; exact (lw_all_mem (List.mem_append_right _ (List.mem_of_getElem? (i := 426) (by decide +kernel))) (by decide +kernel)), (lw_all_mem (List.mem_append_right _ (List.mem_of_getElem? (i := 427) (by decide +kernel))) (by decide +kernel)), rfl, rfl⟩
/-! ===== the law's start: its text ===== -/
abbrev Tst : Type := (Nat → Int) × Int × List Int
/-- one cell drawn -/
def txs (c : Int → Int) (z sd k : Nat) (σ : Tst) : Tst :=
  if σ.1 (c (3 + 9 * (sd : Int) + (k : Int)) % ((z * z : Nat) : Int)).toNat = 0 then
    (fun j => if j = (c (3 + 9 * (sd : Int) + (k : Int)) % ((z * z : Nat) : Int)).toNat then 1 else σ.1 j, 0,
      (if σ.2.1 = 0 then σ.2.2 else σ.2.2 ++ wl_ (if sd = 0 then 23 else 24)) ++ [32] ++ [97 + (((c (3 + 9 * (sd : Int) + (k : Int)) % ((z * z : Nat) : Int)).toNat % z : Nat) : Int)] ++ [48 + ((((c (3 + 9 * (sd : Int) + (k : Int)) % ((z * z : Nat) : Int)).toNat / z : Nat) : Int) + 1)])
  else σ
def txr (c : Int → Int) (z sd : Nat) : Nat → Nat → Tst → Tst
  | _, 0, σ => σ
  | i, r + 1, σ => txr c z sd (i + 1) r (txs c z sd i σ)
def txo (c : Int → Int) (z sd : Nat) (σ : Tst) : Tst := txr c z sd 0 (c 2 % 8).toNat (σ.1, 1, σ.2.2)
def tx0 (c : Int → Int) (z : Nat) : List Int := wl_ 20 ++ [48 + (z : Int)] ++ wl_ (if c 1 % 2 = 0 then 21 else 22)
def txE (c : Int → Int) (z : Nat) : List Int := (txo c z 1 (txo c z 0 (fun _ => 0, 1, tx0 c z))).2.2 ++ wl_ (if c 21 % 2 = 0 then 25 else 26)
theorem txs_le (c : Int → Int) (z sd k : Nat) (σ : Tst) : σ.2.2.length ≤ (txs c z sd k σ).2.2.length := by
  unfold txs
  split
  · show σ.2.2.length ≤ ((if σ.2.1 = 0 then σ.2.2 else σ.2.2 ++ wl_ (if sd = 0 then 23 else 24)) ++ [32] ++ [97 + (((c (3 + 9 * (sd : Int) + (k : Int)) % ((z * z : Nat) : Int)).toNat % z : Nat) : Int)] ++ [48 + ((((c (3 + 9 * (sd : Int) + (k : Int)) % ((z * z : Nat) : Int)).toNat / z : Nat) : Int) + 1)]).length
    rw [List.length_append, List.length_append, List.length_append]
    split
    · omega
    · rw [List.length_append]; omega
  · exact Nat.le_refl _
theorem txr_le (c : Int → Int) (z sd : Nat) : ∀ (r i : Nat) (σ : Tst), σ.2.2.length ≤ (txr c z sd i r σ).2.2.length
  | 0, _, _ => Nat.le_refl _
  | r + 1, i, σ => Nat.le_trans (txs_le c z sd i σ) (txr_le c z sd r (i + 1) _)
theorem txo_le (c : Int → Int) (z sd : Nat) (σ : Tst) : σ.2.2.length ≤ (txo c z sd σ).2.2.length := txr_le c z sd _ 0 (σ.1, 1, σ.2.2)
def FrH (c : Nat) (s s' : Sg) : Prop := ∀ a, (a < 80 ∨ 83 + c ≤ a) → gi s' a = gi s a ∧ gl s' a = gl s a ∧ gd s' a = gd s a
theorem FrH.tr {c c' : Nat} {s s' s2 : Sg} (h : FrH c s s') (hc : c ≤ c') (h' : FrS c' s' s2) : FrH c' s s2 := fun a ha => by
  obtain ⟨a1, a2, a3⟩ := h a (by omega)
  obtain ⟨b1, b2, b3⟩ := h' a (by omega)
  exact ⟨b1.trans a1, b2.trans a2, b3.trans a3⟩
def StH (C : Cx) (s0 : Sg) (z zz T : Nat) : Prop := (2 ≤ z ∧ z ≤ 6 ∧ zz = z * z ∧ zz ≤ 36) ∧ T ≤ 94 ∧ SHN C (cof T) ∧ shC C 80 = some (.inr (.boolean, zz)) ∧ (0 ≤ gi s0 1201 0 ∧ gi s0 1201 0 ≤ 260) ∧ ∀ j, R (gi s0 1200 j)
def StI (s0 : Sg) (zz : Nat) (σ : Tst) (s : Sg) : Prop := SBk s (cof σ.2.2.length) σ.2.2 ∧ (∀ j, j < zz → gi s 80 j = σ.1 j) ∧ FrH (cof σ.2.2.length) s0 s
theorem cell_of {s0 s : Sg} {x : Int} (h : gi s 1200 = gi s0 1200 ∧ gi s 1201 = gi s0 1201) (hS : (0 ≤ gi s0 1201 0 ∧ gi s0 1201 0 ≤ 260) ∧ ∀ j, R (gi s0 1200 j)) (hx : 0 ≤ x ∧ x ≤ 100000) : La_cell x s = some (clv s0 x) := by
  unfold La_cell clv
  rw [h.1, h.2, grd_t hx, grd_t hS.1, grd_t hS.2]
theorem cell_fr {c : Nat} {s0 s : Sg} {x : Int} (h : FrH c s0 s) (hc : c ≤ 2) (hS : (0 ≤ gi s0 1201 0 ∧ gi s0 1201 0 ≤ 260) ∧ ∀ j, R (gi s0 1200 j)) (hx : 0 ≤ x ∧ x ≤ 100000) : La_cell x s = some (clv s0 x) :=
  cell_of ⟨(h 1200 (by omega)).1, (h 1201 (by omega)).1⟩ hS hx
theorem clv_rng (s : Sg) (x : Int) : 0 ≤ clv s x ∧ clv s x < 100000 := by
  unfold clv
  split
  · decide
  · have hA := Int.lt_tmod_of_pos (gi s 1200 (x % gi s 1201 0).toNat) (show (0 : Int) < 100000 by decide)
    have hB := Int.tmod_lt_of_pos (gi s 1200 (x % gi s 1201 0).toNat) (show (0 : Int) < 100000 by decide)
    omega
section START
variable {C : Cx} {ne : Nat} {Qr : Option Value → Hp → Prop} {Qx : String → Hp → Prop}
set_option maxRecDepth 100000 in
theorem st_tail {s0 : Sg} {z zz T : Nat} (hH : StH C s0 z zz T) {q i sd : Nat} {fst : Int} {L1 : List Int} {s1 : Sg} {kc nc : Nat} (hq : q < zz) (hB : SBk s1 (cof L1.length) L1) (hT : L1.length + 3 ≤ T) (hk : kc + 3 ≤ 70) (hn : nc + 282 ≤ 6600)
    (kk : ∀ s', SBk s' (cof (L1.length + 3)) (L1 ++ [32] ++ [97 + ((q % z : Nat) : Int)] ++ [48 + (((q / z : Nat) : Int) + 1)]) → FrS (cof (L1.length + 3)) s1 s' → ww C M_L_start 16 70 6600 ne Qr Qx (83 + cof (L1.length + 3)) (kc + 1 + 1 + 1) (nc + 94 + 94 + 94) 168 [(0, .ref 0), (1, .ref 1200), (2, vi (z : Int)), (3, .ref 80), (4, .ref 81), (5, vi (sd : Int)), (6, vi 0), (7, vi (i : Int)), (8, vi (q : Int))] [] (hp (83 + cof (L1.length + 3)) s')) :
    ww C M_L_start 16 70 6600 ne Qr Qx (83 + cof L1.length) kc nc 137 [(0, .ref 0), (1, .ref 1200), (2, vi (z : Int)), (3, .ref 80), (4, .ref 81), (5, vi (sd : Int)), (6, vi fst), (7, vi (i : Int)), (8, vi (q : Int))] [] (hp (83 + cof L1.length) s1) := by
  obtain ⟨⟨z1, z2, z3, z4⟩, hT94, hN, h80, hS⟩ := hH
  have hqm : q % z < z := Nat.mod_lt _ (by omega)
  have hqd : q / z < z := Nat.div_lt_of_lt_mul (by rw [← z3]; exact hq)
  have hd0 : (0 : Int) ≤ ((q / z : Nat) : Int) := Int.natCast_nonneg _
  have m1 : cof L1.length ≤ cof (L1.length + 1) := cof_mono (by omega)
  have m2 : cof (L1.length + 1) ≤ cof (L1.length + 2) := cof_mono (by omega)
  have m3 : cof (L1.length + 2) ≤ cof (L1.length + 3) := cof_mono (by omega)
  refine x_iconst dL_start_137 ?_
  refine w_istore (lv' := [(6, vi 0), (0, .ref 0), (1, .ref 1200), (2, vi (z : Int)), (3, .ref 80), (4, .ref 81), (5, vi (sd : Int)), (7, vi (i : Int)), (8, vi (q : Int))]) dL_start_138 (Nat.le_of_ble_eq_true rfl) rfl ?_
  refine w_lv (lv' := [(0, .ref 0), (1, .ref 1200), (2, vi (z : Int)), (3, .ref 80), (4, .ref 81), (5, vi (sd : Int)), (6, vi 0), (7, vi (i : Int)), (8, vi (q : Int))]) [1, 2, 3, 4, 5, 6, 0, 7, 8] rfl ?_
  refine w_aload 4 dL_start_140 rfl ?_
  refine x_bipush dL_start_142 (by decide) ?_
  refine w_callV MJ_bC [vi 32] (st := []) dL_start_144 (lv_60 rfl) (by omega) hN.1 rfl (Nat.le_of_ble_eq_true rfl) (by omega) (by omega) (Nat.le_of_ble_eq_true rfl) (cJ_bC (n := L1.length + 1) (L := L1) hB rfl (by decide) rfl (by omega) (hN.le (cof_mono (by omega)))) XOK.no (fun v h' hq9 => ?_)
  obtain ⟨rfl, s2, rfl, hB2, hF2⟩ := hq9
  refine x_bipush dL_start_147 (by decide) ?_
  refine w_iload 8 dL_start_149 rfl ?_
  refine w_iload_n 2 dL_start_151 rfl rfl ?_
  refine x_irem dL_start_152 ⟨⟨Int.natCast_nonneg q, by unfold R; omega⟩, by omega, by unfold R; omega⟩ ?_
  rw [show ((q : Int) % (z : Int)) = ((q % z : Nat) : Int) from rfl]
  refine x_iadd dL_start_153 ?_
  have hc1 : (0 : Int) ≤ 97 + ((q % z : Nat) : Int) ∧ 97 + ((q % z : Nat) : Int) < 128 := by omega
  refine w_i2c dL_start_154 (chr_v hc1).2.1 ?_
  refine w_callV MJ_bC [vi (97 + ((q % z : Nat) : Int))] (st := []) dL_start_155 (lv_60 rfl) (by omega) hN.1 rfl (Nat.le_of_ble_eq_true rfl) (by omega) (by omega) (Nat.le_of_ble_eq_true rfl) (cJ_bC (n := L1.length + 2) (L := L1 ++ [32]) hB2 (by rw [List.length_append]; rfl) hc1 (by rw [List.length_append]; rfl) (by omega) (hN.le (cof_mono (by omega)))) XOK.no (fun v h' hq9 => ?_)
  obtain ⟨rfl, s3, rfl, hB3, hF3⟩ := hq9
  refine w_iload 8 dL_start_158 rfl ?_
  refine w_iload_n 2 dL_start_160 rfl rfl ?_
  refine x_idiv dL_start_161 ⟨⟨Int.natCast_nonneg q, by unfold R; omega⟩, by omega, by unfold R; omega⟩ ?_
  rw [show ((q : Int) / (z : Int)) = ((q / z : Nat) : Int) from rfl]
  refine x_iconst dL_start_162 ?_
  refine x_iadd dL_start_163 ?_
  refine w_callV MJ_bI [vi (((q / z : Nat) : Int) + 1)] (st := []) dL_start_164 (lv_46 rfl) (by omega) hN.1 rfl (Nat.le_of_ble_eq_true rfl) (by omega) (by omega) (Nat.le_of_ble_eq_true rfl) (cJ_bI (n := L1.length + 3) (L := L1 ++ [32] ++ [97 + ((q % z : Nat) : Int)]) hB3 (by rw [List.length_append, List.length_append]; rfl) (by omega) (by rw [List.length_append, List.length_append]; rfl) (by omega) (hN.le (cof_mono (by omega)))) XOK.no (fun v h' hq9 => ?_)
  obtain ⟨rfl, s4, rfl, hB4, hF4⟩ := hq9
  refine w_pop dL_start_167 rfl ?_
  exact kk s4 hB4 ((hF2.tr m2 hF3).tr m3 hF4)
theorem len3 (L1 : List Int) (x y w : Int) : (L1 ++ [x] ++ [y] ++ [w]).length = L1.length + 3 := by
  rw [List.length_append, List.length_append, List.length_append]; rfl
theorem SBk_80 {s : Sg} {c : Nat} {L : List Int} (h : SBk s c L) (j : Nat) (v : Int) : SBk (si s 80 j v) c L := by
  obtain ⟨b1, b2, b3, b4, b5, b6⟩ := h
  exact ⟨b1, by rw [gi_si, if_neg (by omega)]; exact b2, by rw [gi_si, if_neg (by omega)]; exact b3, fun q hq => by rw [gi_si, if_neg (by omega)]; exact b4 q hq, b5, fun q hq => by rw [gi_si, if_neg (by omega)]; exact b6 q hq⟩
def TsO (σ : Tst) : Prop := (∀ j, σ.1 j = 0 ∨ σ.1 j = 1) ∧ (σ.2.1 = 0 ∨ σ.2.1 = 1)
theorem txs_O {c : Int → Int} {z sd k : Nat} {σ : Tst} (h : TsO σ) : TsO (txs c z sd k σ) := by
  unfold txs
  split
  · refine ⟨fun j => ?_, Or.inl rfl⟩
    show (if _ then (1 : Int) else σ.1 j) = 0 ∨ (if _ then (1 : Int) else σ.1 j) = 1
    split
    · exact Or.inr rfl
    · exact h.1 j
  · exact h
/-- behind the cell's word: letter, digit, the next round -/
theorem st_back {s0 : Sg} {z zz T : Nat} (hH : StH C s0 z zz T) {q i sd : Nat} {fst : Int} {σ : Tst} {L1 : List Int} {s s1 : Sg} {kc nc kd nd : Nat} (hq : q < zz) (hqd : (clv s0 (3 + 9 * (sd : Int) + (i : Int)) % ((z * z : Nat) : Int)).toNat = q) (h0 : σ.1 q = 0) (hI : StI s0 zz σ s) (hB : SBk s1 (cof L1.length) L1) (hL1 : L1 = if σ.2.1 = 0 then σ.2.2 else σ.2.2 ++ wl_ (if sd = 0 then 23 else 24)) (hF : FrS (cof L1.length) (si s 80 q 1) s1) (hcl : cof σ.2.2.length ≤ cof L1.length) (hT : (txs (clv s0) z sd i σ).2.2.length ≤ T) (hk : kc + 3 ≤ kd ∧ kd ≤ 70) (hn : nc + 282 ≤ nd ∧ nd ≤ 6600)
    (kk : ∀ s', StI s0 zz (txs (clv s0) z sd i σ) s' → ww C M_L_start 16 70 6600 ne Qr Qx (83 + cof (txs (clv s0) z sd i σ).2.2.length) kd nd 66 [(0, .ref 0), (1, .ref 1200), (2, vi (z : Int)), (3, .ref 80), (4, .ref 81), (5, vi (sd : Int)), (6, vi ((txs (clv s0) z sd i σ).2.1)), (7, vi ((i : Int) + 1))] [] (hp (83 + cof (txs (clv s0) z sd i σ).2.2.length) s')) :
    ww C M_L_start 16 70 6600 ne Qr Qx (83 + cof L1.length) kc nc 137 [(0, .ref 0), (1, .ref 1200), (2, vi (z : Int)), (3, .ref 80), (4, .ref 81), (5, vi (sd : Int)), (6, vi fst), (7, vi (i : Int)), (8, vi (q : Int))] [] (hp (83 + cof L1.length) s1) := by
  have ht : txs (clv s0) z sd i σ = (fun j => if j = q then 1 else σ.1 j, 0, L1 ++ [32] ++ [97 + ((q % z : Nat) : Int)] ++ [48 + (((q / z : Nat) : Int) + 1)]) := by
    unfold txs
    rw [hqd, if_pos h0, ← hL1]
  rw [ht] at hT kk
  have e3 := len3 L1 32 (97 + ((q % z : Nat) : Int)) (48 + (((q / z : Nat) : Int) + 1))
  have hT2 : (L1 ++ [32] ++ [97 + ((q % z : Nat) : Int)] ++ [48 + (((q / z : Nat) : Int) + 1)]).length ≤ T := hT
  rw [e3] at hT2
  refine st_tail hH hq hB hT2 (by omega) (by omega) (fun s' hB' hF' => ?_)
  have hm : cof L1.length ≤ cof (L1.length + 3) := cof_mono (by omega)
  have hFF := hF.tr hm hF'
  rw [← e3] at hB' hFF hm ⊢
  refine w_wid (k2 := kd) (n2 := nd) (by omega) (by omega) ?_
  refine x_iinc (lv' := [(7, vi ((i : Int) + 1)), (0, .ref 0), (1, .ref 1200), (2, vi (z : Int)), (3, .ref 80), (4, .ref 81), (5, vi (sd : Int)), (6, vi 0), (8, vi (q : Int))]) 7 dL_start_168 rfl (Nat.le_of_ble_eq_true rfl) rfl ?_
  refine w_goto dL_start_171 rfl ?_
  refine w_lv (lv' := [(0, .ref 0), (1, .ref 1200), (2, vi (z : Int)), (3, .ref 80), (4, .ref 81), (5, vi (sd : Int)), (6, vi 0), (7, vi ((i : Int) + 1))]) [1, 2, 3, 4, 5, 6, 7, 0] rfl ?_
  refine kk s' ⟨hB', fun j hj => ?_, fun a ha => ?_⟩
  · show gi s' 80 j = if j = q then 1 else σ.1 j
    rw [(hFF 80 (Or.inl (Nat.le_refl _))).1, gi_si]
    by_cases hj2 : j = q
    · rw [if_pos ⟨rfl, hj2⟩, if_pos hj2]
    · rw [if_neg (fun z => hj2 z.2), if_neg hj2]
      exact hI.2.1 j hj
  · have ha' : a < 80 ∨ 83 + cof (L1 ++ [32] ++ [97 + ((q % z : Nat) : Int)] ++ [48 + (((q / z : Nat) : Int) + 1)]).length ≤ a := ha
    obtain ⟨a1, a2, a3⟩ := hI.2.2 a (by omega)
    obtain ⟨b1, b2, b3⟩ := hFF a (by omega)
    refine ⟨?_, b2.trans a2, b3.trans a3⟩
    rw [b1]
    funext j
    rw [gi_si, if_neg (by omega), a1]
set_option maxRecDepth 100000 in
theorem st_round {s0 : Sg} {z zz T : Nat} (hH : StH C s0 z zz T) {i sd : Nat} {σ : Tst} {s : Sg} {kc nc : Nat} (hsd : sd ≤ 1) (hI : StI s0 zz σ s) (hO : TsO σ) (hlt : (i : Int) < clv s0 2 % 8) (hT0 : σ.2.2.length ≤ T) (hT : (txs (clv s0) z sd i σ).2.2.length ≤ T) (hk : kc + 4 ≤ 70) (hn : nc + 376 ≤ 6600)
    (kk : ∀ s', StI s0 zz (txs (clv s0) z sd i σ) s' → ww C M_L_start 16 70 6600 ne Qr Qx (83 + cof (txs (clv s0) z sd i σ).2.2.length) (kc + 4) (nc + 376) 66 [(0, .ref 0), (1, .ref 1200), (2, vi (z : Int)), (3, .ref 80), (4, .ref 81), (5, vi (sd : Int)), (6, vi ((txs (clv s0) z sd i σ).2.1)), (7, vi ((i : Int) + 1))] [] (hp (83 + cof (txs (clv s0) z sd i σ).2.2.length) s')) :
    ww C M_L_start 16 70 6600 ne Qr Qx (83 + cof σ.2.2.length) kc nc 66 [(0, .ref 0), (1, .ref 1200), (2, vi (z : Int)), (3, .ref 80), (4, .ref 81), (5, vi (sd : Int)), (6, vi σ.2.1), (7, vi (i : Int))] [] (hp (83 + cof σ.2.2.length) s) := by
  have hH' := hH
  obtain ⟨⟨z1, z2, z3, z4⟩, hT94, hN, h80, hS⟩ := hH'
  have hI' := hI
  obtain ⟨hB, hhad, hFr⟩ := hI'
  have hc2 := cof_le σ.2.2.length
  have hr2 := clv_rng s0 2
  have hrv := clv_rng s0 (3 + 9 * (sd : Int) + (i : Int))
  have hm8 : clv s0 2 % 8 < 8 := Int.emod_lt_of_pos _ (by decide)
  have hkK : KN = 80 := rfl
  have hq0 : ∃ q : Nat, clv s0 (3 + 9 * (sd : Int) + (i : Int)) % ((z * z : Nat) : Int) = (q : Int) ∧ q < zz := by
    have hzp : (0 : Int) < ((z * z : Nat) : Int) := by rw [← z3]; have : 0 < zz := by rw [z3]; exact Nat.mul_pos (by omega) (by omega)
                                                       omega
    have g1 := Int.emod_nonneg (clv s0 (3 + 9 * (sd : Int) + (i : Int))) (by omega : ((z * z : Nat) : Int) ≠ 0)
    have g2 := Int.emod_lt_of_pos (clv s0 (3 + 9 * (sd : Int) + (i : Int))) hzp
    refine ⟨(clv s0 (3 + 9 * (sd : Int) + (i : Int)) % ((z * z : Nat) : Int)).toNat, (Int.toNat_of_nonneg g1).symm, ?_⟩
    rw [z3]
    omega
  obtain ⟨q, hqE, hq⟩ := hq0
  have hqd : (clv s0 (3 + 9 * (sd : Int) + (i : Int)) % ((z * z : Nat) : Int)).toNat = q := by rw [hqE]; exact Int.toNat_natCast q
  have hzzI : ((z : Int) * (z : Int)) = ((z * z : Nat) : Int) := (Int.natCast_mul z z).symm
  have hzR : (z * z : Nat) ≤ 36 := by rw [← z3]; exact z4
  refine w_iload 7 dL_start_66 rfl ?_
  refine w_aload_n 1 dL_start_68 rfl rfl ?_
  refine x_iconst dL_start_69 ?_
  refine w_callS M_L_cell [.ref 1200, vi 2] (st := [vi (i : Int)]) dL_start_70 (ls_33 rfl) (Nat.le_of_ble_eq_true rfl) (by omega) (by omega) (Nat.le_of_ble_eq_true rfl) (c_La_cell (by omega) 2 s _ (cell_fr hFr hc2 hS (by decide))) XOK.no (fun v h' hq9 => ?_)
  obtain ⟨rfl, rfl⟩ := hq9
  refine x_bipush dL_start_73 (by decide) ?_
  refine x_irem dL_start_75 ⟨⟨hr2.1, by unfold R; omega⟩, by decide, by unfold R; omega⟩ ?_
  refine w_icmpge dL_start_76 rfl (fun q9 => absurd ((c32m (show R (clv s0 2 % 8) by unfold R; omega) (show R (i : Int) by unfold R; omega)).mp q9) (by omega)) (fun _ => ?_)
  refine w_aload_n 1 dL_start_79 rfl rfl ?_
  refine x_iconst dL_start_80 ?_
  refine x_bipush dL_start_81 (by decide) ?_
  refine w_iload 5 dL_start_83 rfl ?_
  refine x_imul dL_start_85 ?_
  refine x_iadd dL_start_86 ?_
  refine w_iload 7 dL_start_87 rfl ?_
  refine x_iadd dL_start_89 ?_
  refine w_callS M_L_cell [.ref 1200, vi (3 + 9 * (sd : Int) + (i : Int))] (st := []) dL_start_90 (ls_33 rfl) (Nat.le_of_ble_eq_true rfl) (by omega) (by omega) (Nat.le_of_ble_eq_true rfl) (c_La_cell (by omega) (3 + 9 * (sd : Int) + (i : Int)) s _ (cell_fr hFr hc2 hS (by omega))) XOK.no (fun v h' hq9 => ?_)
  obtain ⟨rfl, rfl⟩ := hq9
  refine w_iload_n 2 dL_start_93 rfl rfl ?_
  refine w_iload_n 2 dL_start_94 rfl rfl ?_
  refine x_imul dL_start_95 ?_
  rw [hzzI]
  refine x_irem dL_start_96 ⟨⟨hrv.1, by unfold R; omega⟩, by rw [← z3]; omega, by unfold R; omega⟩ ?_
  rw [hqE]
  refine w_istore (lv' := [(8, vi (q : Int)), (0, .ref 0), (1, .ref 1200), (2, vi (z : Int)), (3, .ref 80), (4, .ref 81), (5, vi (sd : Int)), (6, vi σ.2.1), (7, vi (i : Int))]) dL_start_97 (Nat.le_of_ble_eq_true rfl) rfl ?_
  refine w_lv (lv' := [(0, .ref 0), (1, .ref 1200), (2, vi (z : Int)), (3, .ref 80), (4, .ref 81), (5, vi (sd : Int)), (6, vi σ.2.1), (7, vi (i : Int)), (8, vi (q : Int))]) [1, 2, 3, 4, 5, 6, 7, 8, 0] rfl ?_
  refine w_aload_n 3 dL_start_99 rfl rfl ?_
  refine w_iload 8 dL_start_100 rfl ?_
  refine x_zaldC (m1 := zz) ⟨Int.natCast_nonneg q, by omega⟩ (by omega) dL_start_102 h80 (by omega) ?_
  rw [Int.toNat_natCast, hhad q hq]
  by_cases h0 : σ.1 q = 0
  · refine w_ifeq dL_start_103 rfl (fun _ => ?_) (fun q9 => absurd (by rw [h0]; rfl) q9)
    refine w_aload_n 3 dL_start_109 rfl rfl ?_
    refine w_iload 8 dL_start_110 rfl ?_
    refine x_iconst dL_start_112 ?_
    refine x_zastC (m1 := zz) (Or.inr rfl) ⟨Int.natCast_nonneg q, by omega⟩ (by omega) dL_start_113 h80 (by omega) ?_
    rw [Int.toNat_natCast]
    have hB1 := SBk_80 hB q 1
    refine w_iload 6 dL_start_114 rfl ?_
    rcases hO.2 with hf | hf
    · refine w_ifeq dL_start_116 rfl (fun _ => ?_) (fun q9 => absurd (by rw [hf]; rfl) q9)
      exact st_back hH hq hqd h0 hI hB1 (by rw [if_pos hf]) FrS.rf (Nat.le_refl _) hT (by omega) (by omega) kk
    · refine w_ifeq dL_start_116 rfl (fun q9 => absurd q9 (by rw [hf]; decide)) (fun _ => ?_)
      have hw1 : σ.2.1 ≠ 0 := by rw [hf]; decide
      refine w_aload 4 dL_start_119 rfl ?_
      refine w_iload 5 dL_start_121 rfl ?_
      have hTl : ∀ w, (if sd = 0 then 23 else 24) = w → σ.2.2.length + wlen w ≤ T := by
        intro w hw
        have h9 := hT
        unfold txs at h9
        rw [hqd, if_pos h0] at h9
        have h8 : ((if σ.2.1 = 0 then σ.2.2 else σ.2.2 ++ wl_ (if sd = 0 then 23 else 24)) ++ [32] ++ [97 + ((q % z : Nat) : Int)] ++ [48 + (((q / z : Nat) : Int) + 1)]).length ≤ T := h9
        rw [len3, if_neg hw1, hw, List.length_append, wlX_len] at h8
        omega
      have fin : ∀ w, isStr w → (if sd = 0 then 23 else 24) = w → ww C M_L_start 16 70 6600 ne Qr Qx (83 + cof σ.2.2.length) (kc + 0 + 0) (nc + 0 + 0) 133 [(0, .ref 0), (1, .ref 1200), (2, vi (z : Int)), (3, .ref 80), (4, .ref 81), (5, vi (sd : Int)), (6, vi σ.2.1), (7, vi (i : Int)), (8, vi (q : Int))] [.ref (2000 + w), .ref 81] (hp (83 + cof σ.2.2.length) (si s 80 q 1)) := by
        intro w hw hwe
        have hl := hTl w hwe
        have hlen : (σ.2.2 ++ wl_ w).length = σ.2.2.length + wlen w := by rw [List.length_append, wlX_len]
        refine w_callV MJ_bS [.ref (2000 + w)] (st := []) dL_start_133 (lv_53 rfl) (by omega) hN.1 rfl (Nat.le_of_ble_eq_true rfl) (by omega) (by omega) (Nat.le_of_ble_eq_true rfl) (cJ_bS (n := σ.2.2.length + wlen w) hB1 rfl hw rfl (by omega) (hN.le (cof_mono (by omega)))) XOK.no (fun v h' hq9 => ?_)
        obtain ⟨rfl, s2, rfl, hB2, hF2⟩ := hq9
        refine w_pop dL_start_136 rfl ?_
        rw [← hlen] at hB2 hF2 ⊢
        exact st_back hH hq hqd h0 hI hB2 (by rw [if_neg hw1, hwe]) hF2 (cof_mono (by omega)) hT (by omega) (by omega) kk
      rcases (by omega : sd = 0 ∨ sd = 1) with rfl | rfl
      · refine w_ifne dL_start_123 rfl (fun q9 => absurd rfl q9) (fun _ => ?_)
        refine x_ldcS (q := 2023) (tx := ";red") dL_start_126 (by decide) (by decide) ?_
        refine w_goto dL_start_128 rfl ?_
        exact fin 23 (by unfold isStr; omega) rfl
      · refine w_ifne dL_start_123 rfl (fun _ => ?_) (fun q9 => absurd q9 (by decide))
        refine x_ldcS (q := 2024) (tx := ";blue") dL_start_131 (by decide) (by decide) ?_
        exact fin 24 (by unfold isStr; omega) rfl
  · have h1 : σ.1 q = 1 := (hO.1 q).resolve_left h0
    refine w_ifeq dL_start_103 rfl (fun q9 => absurd q9 (by rw [h1]; decide)) (fun _ => ?_)
    refine w_goto dL_start_106 rfl ?_
    have ht : txs (clv s0) z sd i σ = σ := by
      unfold txs
      rw [hqd, if_neg h0]
    rw [ht] at kk
    refine w_wid (k2 := kc + 4) (n2 := nc + 376) (by omega) (by omega) ?_
    refine x_iinc (lv' := [(7, vi ((i : Int) + 1)), (0, .ref 0), (1, .ref 1200), (2, vi (z : Int)), (3, .ref 80), (4, .ref 81), (5, vi (sd : Int)), (6, vi σ.2.1), (8, vi (q : Int))]) 7 dL_start_168 rfl (Nat.le_of_ble_eq_true rfl) rfl ?_
    refine w_goto dL_start_171 rfl ?_
    refine w_lv (lv' := [(0, .ref 0), (1, .ref 1200), (2, vi (z : Int)), (3, .ref 80), (4, .ref 81), (5, vi (sd : Int)), (6, vi σ.2.1), (7, vi ((i : Int) + 1))]) [1, 2, 3, 4, 5, 6, 7, 0] rfl ?_
    exact kk s hI
theorem txr_O {c : Int → Int} {z sd : Nat} : ∀ (r i : Nat) (σ : Tst), TsO σ → TsO (txr c z sd i r σ)
  | 0, _, _, h => h
  | r + 1, i, _, h => txr_O r (i + 1) _ (txs_O h)
theorem txo_O {c : Int → Int} {z sd : Nat} {σ : Tst} (h : TsO σ) : TsO (txo c z sd σ) := txr_O _ 0 _ ⟨h.1, Or.inr rfl⟩
set_option maxRecDepth 100000 in
theorem st_inner {s0 : Sg} {z zz T : Nat} (hH : StH C s0 z zz T) {sd m : Nat} (hsd : sd ≤ 1) (hm : ((m : Nat) : Int) = clv s0 2 % 8) {kd nd : Nat} {σe : Tst} (hTe : σe.2.2.length ≤ T) (hkd : kd ≤ 70) (hnd : nd ≤ 6600)
    (kk : ∀ s', StI s0 zz σe s' → ww C M_L_start 16 70 6600 ne Qr Qx (83 + cof σe.2.2.length) kd nd 174 [(0, .ref 0), (1, .ref 1200), (2, vi (z : Int)), (3, .ref 80), (4, .ref 81), (5, vi (sd : Int))] [] (hp (83 + cof σe.2.2.length) s')) :
    ∀ (r i : Nat) (σ : Tst) (s : Sg) (kc nc : Nat), i + r = m → txr (clv s0) z sd i r σ = σe → StI s0 zz σ s → TsO σ → kc + 4 * r ≤ kd → nc + 376 * r ≤ nd → ww C M_L_start 16 70 6600 ne Qr Qx (83 + cof σ.2.2.length) kc nc 66 [(0, .ref 0), (1, .ref 1200), (2, vi (z : Int)), (3, .ref 80), (4, .ref 81), (5, vi (sd : Int)), (6, vi σ.2.1), (7, vi (i : Int))] [] (hp (83 + cof σ.2.2.length) s)
  | 0, i, σ, s, kc, nc, hi, he, hI, hO, hk, hn => by
    have he' : σ = σe := he
    subst he'
    have hH' := hH
    obtain ⟨⟨z1, z2, z3, z4⟩, hT94, hN, h80, hS⟩ := hH'
    have hc2 := cof_le σ.2.2.length
    have hr2 := clv_rng s0 2
    have hm8 : clv s0 2 % 8 < 8 := Int.emod_lt_of_pos _ (by decide)
    refine w_iload 7 dL_start_66 rfl ?_
    refine w_aload_n 1 dL_start_68 rfl rfl ?_
    refine x_iconst dL_start_69 ?_
    refine w_callS M_L_cell [.ref 1200, vi 2] (st := [vi (i : Int)]) dL_start_70 (ls_33 rfl) (Nat.le_of_ble_eq_true rfl) (by omega) (by omega) (Nat.le_of_ble_eq_true rfl) (c_La_cell (by omega) 2 s _ (cell_fr hI.2.2 hc2 hS (by decide))) XOK.no (fun v h' hq9 => ?_)
    obtain ⟨rfl, rfl⟩ := hq9
    refine x_bipush dL_start_73 (by decide) ?_
    refine x_irem dL_start_75 ⟨⟨hr2.1, by unfold R; omega⟩, by decide, by unfold R; omega⟩ ?_
    refine w_icmpge dL_start_76 rfl (fun _ => ?_) (fun q9 => absurd ((c32m (show R (clv s0 2 % 8) by unfold R; omega) (show R (i : Int) by unfold R; omega)).mpr (by omega)) q9)
    refine w_wid (k2 := kd) (n2 := nd) (by omega) (by omega) ?_
    refine w_lv (lv' := [(0, .ref 0), (1, .ref 1200), (2, vi (z : Int)), (3, .ref 80), (4, .ref 81), (5, vi (sd : Int))]) [0, 1, 2, 3, 4, 5] rfl ?_
    exact kk s hI
  | r + 1, i, σ, s, kc, nc, hi, he, hI, hO, hk, hn => by
    have hl := txr_le (clv s0) z sd r (i + 1) (txs (clv s0) z sd i σ)
    have he' : txr (clv s0) z sd (i + 1) r (txs (clv s0) z sd i σ) = σe := he
    rw [he'] at hl
    have hl2 := txs_le (clv s0) z sd i σ
    refine st_round hH hsd hI hO (by omega) (by omega) (by omega) (by omega) (by omega) (fun s' hI' => ?_)
    have h9 := st_inner hH hsd hm hTe hkd hnd kk r (i + 1) (txs (clv s0) z sd i σ) s' (kc + 4) (nc + 376) (by omega) he' hI' (txs_O hO) (by omega) (by omega)
    rw [show (((i + 1 : Nat)) : Int) = (i : Int) + 1 by omega] at h9
    exact h9
set_option maxRecDepth 100000 in
/-- one side -/
theorem st_side {s0 : Sg} {z zz T : Nat} (hH : StH C s0 z zz T) {sd : Nat} {σ : Tst} {s : Sg} {kc nc : Nat} (hsd : sd ≤ 1) (hI : StI s0 zz σ s) (hO : TsO σ) (hTe : (txo (clv s0) z sd σ).2.2.length ≤ T) (hk : kc + 28 ≤ 70) (hn : nc + 2632 ≤ 6600)
    (kk : ∀ s', StI s0 zz (txo (clv s0) z sd σ) s' → ww C M_L_start 16 70 6600 ne Qr Qx (83 + cof (txo (clv s0) z sd σ).2.2.length) (kc + 28) (nc + 2632) 54 [(0, .ref 0), (1, .ref 1200), (2, vi (z : Int)), (3, .ref 80), (4, .ref 81), (5, vi ((sd : Int) + 1))] [] (hp (83 + cof (txo (clv s0) z sd σ).2.2.length) s')) :
    ww C M_L_start 16 70 6600 ne Qr Qx (83 + cof σ.2.2.length) kc nc 54 [(0, .ref 0), (1, .ref 1200), (2, vi (z : Int)), (3, .ref 80), (4, .ref 81), (5, vi (sd : Int))] [] (hp (83 + cof σ.2.2.length) s) := by
  have hr2 := clv_rng s0 2
  have hm0 := Int.emod_nonneg (clv s0 2) (by decide : (8 : Int) ≠ 0)
  have hm8 : clv s0 2 % 8 < 8 := Int.emod_lt_of_pos _ (by decide)
  refine w_iload 5 dL_start_54 rfl ?_
  refine x_iconst dL_start_56 ?_
  refine w_icmpge dL_start_57 rfl (fun q9 => absurd ((c32m (show R 2 by unfold R; omega) (show R (sd : Int) by unfold R; omega)).mp q9) (by omega)) (fun _ => ?_)
  refine x_iconst dL_start_60 ?_
  refine w_istore (lv' := [(6, vi 1), (0, .ref 0), (1, .ref 1200), (2, vi (z : Int)), (3, .ref 80), (4, .ref 81), (5, vi (sd : Int))]) dL_start_61 (Nat.le_of_ble_eq_true rfl) rfl ?_
  refine x_iconst dL_start_63 ?_
  refine w_istore (lv' := [(7, vi 0), (6, vi 1), (0, .ref 0), (1, .ref 1200), (2, vi (z : Int)), (3, .ref 80), (4, .ref 81), (5, vi (sd : Int))]) dL_start_64 (Nat.le_of_ble_eq_true rfl) rfl ?_
  refine w_lv (lv' := [(0, .ref 0), (1, .ref 1200), (2, vi (z : Int)), (3, .ref 80), (4, .ref 81), (5, vi (sd : Int)), (6, vi 1), (7, vi 0)]) [2, 3, 4, 5, 6, 7, 1, 0] rfl ?_
  refine st_inner hH hsd (m := (clv s0 2 % 8).toNat) (by omega) (kd := kc + 28) (nd := nc + 2632) (σe := txo (clv s0) z sd σ) hTe (by omega) (by omega) (fun s' hI' => ?_) (clv s0 2 % 8).toNat 0 (σ.1, 1, σ.2.2) s kc nc (by omega) rfl ⟨hI.1, hI.2.1, hI.2.2⟩ ⟨hO.1, Or.inr rfl⟩ (by omega) (by omega)
  refine x_iinc (lv' := [(5, vi ((sd : Int) + 1)), (0, .ref 0), (1, .ref 1200), (2, vi (z : Int)), (3, .ref 80), (4, .ref 81)]) 5 dL_start_174 rfl (Nat.le_of_ble_eq_true rfl) rfl ?_
  refine w_goto dL_start_177 rfl ?_
  refine w_lv (lv' := [(0, .ref 0), (1, .ref 1200), (2, vi (z : Int)), (3, .ref 80), (4, .ref 81), (5, vi ((sd : Int) + 1))]) [1, 2, 3, 4, 5, 0] rfl ?_
  exact kk s' hI'
end START
/-- what start leaves: the text in its String, then what load makes of it -/
def FrX (c : Nat) (s s' : Sg) : Prop := ∀ a, (a < 80 ∨ 85 + c ≤ a) → gi s' a = gi s a ∧ gl s' a = gl s a ∧ gd s' a = gd s a
def QST (s0 : Sg) (T : Nat) (L : List Int) : Option Value → Hp → Prop := fun v h' => ∃ s' o, FrX (cof T) s0 s' ∧ Txt s' (83 + cof T) L ∧ La_load (83 + cof T) L s' = some o ∧ v = some (vi o.1) ∧ h' = hp (83 + cof T + 1 + 1) o.2
theorem wlX_rng (w : Nat) (hw : w < 27) : ∀ x ∈ wl_ w, 0 ≤ x ∧ x < 128 := by
  have h : ∀ w, w < 27 → ∀ j, j < 11 → 0 ≤ wch w j ∧ wch w j < 128 := by decide +kernel
  intro x hx
  unfold wl_ at hx
  obtain ⟨j, hj, rfl⟩ := List.mem_map.mp hx
  have := wlen5 w hw
  exact h w hw j (by have := List.mem_range.mp hj; omega)
set_option maxRecDepth 100000 in
theorem c_La_start {C : Cx} {s0 : Sg} {z zz T : Nat} (hH : StH C s0 z zz T) (hz : ((z : Nat) : Int) = 2 + clv s0 0 % 5) (hTT : T = (txE (clv s0) z).length) (h81 : shC C 81 = some (.inl 13)) (hsa : shC C (83 + cof T) = some (.inl 12)) (hsb : shC C (84 + cof T) = some (.inr (.byte, T)))
    (hL : ∀ j, j < (txE (clv s0) z).length → 0 ≤ (txE (clv s0) z).getD j 0 ∧ (txE (clv s0) z).getD j 0 < 128)
    (hload : ∀ s', FrX (cof T) s0 s' → Txt s' (83 + cof T) (txE (clv s0) z) → ∃ o, La_load (83 + cof T) (txE (clv s0) z) s' = some o) :
    mm C M_L_start 16 70 6600 80 (83 + cof T + 1 + 1) [.ref 0, .ref 1200] (hp 80 s0) (QST s0 T (txE (clv s0) z)) XF := by
  have hH' := hH
  obtain ⟨⟨z1, z2, z3, z4⟩, hT94, hN, h80, hS⟩ := hH'
  have hkK : KN = 80 := rfl
  have hrc := clv_rng s0
  have hcn : cn 13 = 4 := by decide
  have hO0 : TsO (fun _ => 0, 1, tx0 (clv s0) z) := ⟨fun _ => Or.inl rfl, Or.inr rfl⟩
  have hl1 := txo_le (clv s0) z 0 (fun _ => 0, 1, tx0 (clv s0) z)
  have hl2 := txo_le (clv s0) z 1 (txo (clv s0) z 0 (fun _ => 0, 1, tx0 (clv s0) z))
  have hl3 : (txo (clv s0) z 1 (txo (clv s0) z 0 (fun _ => 0, 1, tx0 (clv s0) z))).2.2.length + wlen (if clv s0 21 % 2 = 0 then 25 else 26) = T := by
    rw [hTT]
    unfold txE
    rw [List.length_append, wlX_len]
  have hl0 : wlen 20 + 1 + wlen (if clv s0 1 % 2 = 0 then 21 else 22) ≤ T := by
    have h9 : (tx0 (clv s0) z).length = wlen 20 + 1 + wlen (if clv s0 1 % 2 = 0 then 21 else 22) := by
      unfold tx0
      rw [List.length_append, List.length_append, wlX_len, wlX_len]
      rfl
    have h8 : (tx0 (clv s0) z).length ≤ (txo (clv s0) z 0 (fun _ => 0, 1, tx0 (clv s0) z)).2.2.length := hl1
    omega
  have h20 : wlen 20 = 6 := by decide
  refine mm_of rfl rfl (Nat.le_of_ble_eq_true rfl) ?_
  show ww C M_L_start 16 70 6600 (83 + cof T + 1 + 1) (QST s0 T (txE (clv s0) z)) XF 80 0 0 0 [(0, .ref 0), (1, .ref 1200)] [] (hp 80 s0)
  refine x_iconst dL_start_0 ?_
  refine w_aload_n 1 dL_start_1 rfl rfl ?_
  refine x_iconst dL_start_2 ?_
  refine w_callS M_L_cell [.ref 1200, vi 0] (st := [vi 2]) dL_start_3 (ls_33 rfl) (Nat.le_of_ble_eq_true rfl) (Nat.le_of_ble_eq_true rfl) (Nat.le_of_ble_eq_true rfl) (Nat.le_of_ble_eq_true rfl) (c_La_cell (by omega) 0 s0 _ (cell_of ⟨rfl, rfl⟩ hS (by decide))) XOK.no (fun v h' hq9 => ?_)
  obtain ⟨rfl, rfl⟩ := hq9
  refine x_iconst dL_start_6 ?_
  refine x_irem dL_start_7 ⟨⟨(hrc 0).1, by have := hrc 0; unfold R; omega⟩, by decide, by unfold R; omega⟩ ?_
  refine x_iadd dL_start_8 ?_
  rw [← hz]
  refine w_istore_n (lv' := [(2, vi (z : Int)), (0, .ref 0), (1, .ref 1200)]) dL_start_9 rfl (Nat.le_of_ble_eq_true rfl) rfl ?_
  refine w_iload_n 0 dL_start_10 rfl rfl ?_
  refine w_iload_n 0 dL_start_11 rfl rfl ?_
  refine x_imul dL_start_12 ?_
  refine xe_newa .boolean zz (by rw [z3]; exact (Int.natCast_mul z z).symm) (by omega) dL_start_13 rfl h80 (by decide) (Or.inr (Or.inl rfl)) nk_boolean (by omega) (by omega) ?_
  refine w_astore_n (lv' := [(3, .ref 80), (2, vi (z : Int)), (0, .ref 0), (1, .ref 1200)]) dL_start_15 rfl (Nat.le_of_ble_eq_true rfl) rfl ?_
  refine xe_new 13 dL_start_16 h81 (by decide) (nkL_39 rfl) (by omega) (by omega) ?_
  refine w_dup dL_start_19 rfl ?_
  refine x_ldcS (q := 2020) (tx := "board ") dL_start_20 (by decide) (by decide) ?_
  refine w_callI MJ_sNew [.ref (2000 + 20)] (st := [.ref 81]) dL_start_22 (li_43 rfl) (Nat.le_of_ble_eq_true rfl) (by omega) (by omega) (Nat.le_of_ble_eq_true rfl) (cJ_sNew (w := 20) (by unfold isStr; omega) h20 (hN.le (cof_mono (by omega))) (by rw [gi_zr, if_pos rfl])) XOK.no (fun v h' hq9 => ?_)
  obtain ⟨rfl, s1, rfl, hB1, hF1⟩ := hq9
  refine w_iload_n 1 dL_start_25 rfl rfl ?_
  refine w_callV MJ_bI [vi (z : Int)] (st := []) dL_start_26 (lv_46 rfl) (by omega) hN.1 rfl (Nat.le_of_ble_eq_true rfl) (by omega) (by omega) (Nat.le_of_ble_eq_true rfl) (cJ_bI (n := wlen 20 + 1) (L := wl_ 20) hB1 (by rw [wlX_len]) (by omega) (by rw [wlX_len]) (by omega) (hN.le (cof_mono (by omega)))) XOK.no (fun v h' hq9 => ?_)
  obtain ⟨rfl, s2, rfl, hB2, hF2⟩ := hq9
  have hf2 : FrS (cof (wlen 20 + 1)) (zr (zr s0 80) 81) s2 := hF1.tr (cof_mono (by omega)) hF2
  have hcs : ∀ a, 85 ≤ a → gi (zr (zr s0 80) 81) a = gi s0 a := fun a ha => funext fun j => by rw [gi_zr, if_neg (by omega), gi_zr, if_neg (by omega)]
  have hc0 : cof (wlen 20 + 1) = 0 := by decide
  have hce2 : gi s2 1200 = gi s0 1200 ∧ gi s2 1201 = gi s0 1201 := ⟨(hf2 1200 (by omega)).1.trans (hcs 1200 (by omega)), (hf2 1201 (by omega)).1.trans (hcs 1201 (by omega))⟩
  refine w_aload_n 3 dL_start_29 rfl rfl ?_
  refine x_iconst dL_start_30 ?_
  refine w_callS M_L_cell [.ref 1200, vi 1] (st := [.ref 81]) dL_start_31 (ls_33 rfl) (Nat.le_of_ble_eq_true rfl) (by omega) (by omega) (Nat.le_of_ble_eq_true rfl) (c_La_cell (by omega) 1 s2 _ (cell_of hce2 hS (by decide))) XOK.no (fun v h' hq9 => ?_)
  obtain ⟨rfl, rfl⟩ := hq9
  refine x_iconst dL_start_34 ?_
  refine x_irem dL_start_35 ⟨⟨(hrc 1).1, by have := hrc 1; unfold R; omega⟩, by decide, by unfold R; omega⟩ ?_
  have hr1 := hrc 1
  have hR1 : R (clv s0 1 % 2) := by unfold R; omega
  have k46 : ∀ w, isStr w → (if clv s0 1 % 2 = 0 then 21 else 22) = w → ww C M_L_start 16 70 6600 (83 + cof T + 1 + 1) (QST s0 T (txE (clv s0) z)) XF (83 + cof (wlen 20 + 1)) 5 400 46 [(3, .ref 80), (2, vi (z : Int)), (0, .ref 0), (1, .ref 1200)] [.ref (2000 + w), .ref 81] (hp (83 + cof (wlen 20 + 1)) s2) := by
    intro w hw hwe
    rw [hwe] at hl0
    have hlen : (tx0 (clv s0) z).length = wlen 20 + 1 + wlen w := by
      unfold tx0
      rw [hwe, List.length_append, List.length_append, wlX_len, wlX_len]
      rfl
    refine w_callV MJ_bS [.ref (2000 + w)] (st := []) dL_start_46 (lv_53 rfl) (by omega) hN.1 rfl (Nat.le_of_ble_eq_true rfl) (by omega) (by omega) (Nat.le_of_ble_eq_true rfl) (cJ_bS (n := wlen 20 + 1 + wlen w) (L := wl_ 20 ++ [48 + (z : Int)]) hB2 (by rw [List.length_append, wlX_len]; rfl) hw (by rw [List.length_append, wlX_len]; rfl) (by omega) (hN.le (cof_mono (by omega)))) XOK.no (fun v h' hq9 => ?_)
    obtain ⟨rfl, s3, rfl, hB3, hF3⟩ := hq9
    have hf3 := hf2.tr (cof_mono (by omega)) hF3
    have hB3' : SBk s3 (cof (wlen 20 + 1 + wlen w)) (tx0 (clv s0) z) := by
      unfold tx0
      rw [hwe]
      exact hB3
    rw [← hlen] at hB3' hf3 ⊢
    have hI0 : StI s0 zz (fun _ => 0, 1, tx0 (clv s0) z) s3 := by
      refine ⟨hB3', fun j hj => ?_, fun a ha => ?_⟩
      · rw [(hf3 80 (Or.inl (Nat.le_refl _))).1, gi_zr, if_neg (by omega), gi_zr, if_pos rfl]
      · have ha' : a < 80 ∨ 83 + cof (tx0 (clv s0) z).length ≤ a := ha
        obtain ⟨b1, b2, b3⟩ := hf3 a (by omega)
        refine ⟨b1.trans (funext fun j => ?_), b2.trans (funext fun j => ?_), b3.trans (funext fun j => ?_)⟩
        · rw [gi_zr, if_neg (by omega), gi_zr, if_neg (by omega)]
        · rw [gl_zr, if_neg (by omega), gl_zr, if_neg (by omega)]
        · rw [gd_zr, if_neg (by omega), gd_zr, if_neg (by omega)]
    refine w_astore (lv' := [(4, .ref 81), (3, .ref 80), (2, vi (z : Int)), (0, .ref 0), (1, .ref 1200)]) dL_start_49 (Nat.le_of_ble_eq_true rfl) rfl ?_
    refine x_iconst dL_start_51 ?_
    refine w_istore (lv' := [(5, vi 0), (4, .ref 81), (3, .ref 80), (2, vi (z : Int)), (0, .ref 0), (1, .ref 1200)]) dL_start_52 (Nat.le_of_ble_eq_true rfl) rfl ?_
    refine w_lv (lv' := [(0, .ref 0), (1, .ref 1200), (2, vi (z : Int)), (3, .ref 80), (4, .ref 81), (5, vi 0)]) [4, 5, 3, 2, 1, 0] rfl ?_
    refine w_wid (k2 := 6) (n2 := 500) (by omega) (by omega) ?_
    refine st_side hH (sd := 0) (σ := (fun _ => 0, 1, tx0 (clv s0) z)) (s := s3) (kc := 6) (nc := 500) (by omega) hI0 hO0 (by omega) (by omega) (by omega) (fun s4 hI4 => ?_)
    refine st_side hH (sd := 1) (σ := txo (clv s0) z 0 (fun _ => 0, 1, tx0 (clv s0) z)) (s := s4) (kc := 6 + 28) (nc := 500 + 2632) (by omega) hI4 (txo_O hO0) (by omega) (by omega) (by omega) (fun s5 hI5 => ?_)
    generalize hσe : txo (clv s0) z 1 (txo (clv s0) z 0 (fun _ => 0, 1, tx0 (clv s0) z)) = σe at hl2 hl3 hI5 ⊢
    have hEe : txE (clv s0) z = σe.2.2 ++ wl_ (if clv s0 21 % 2 = 0 then 25 else 26) := by
      unfold txE
      rw [hσe]
    have hc9 := cof_le σe.2.2.length
    refine w_iload 5 dL_start_54 rfl ?_
    refine x_iconst dL_start_56 ?_
    refine w_icmpge dL_start_57 rfl (fun _ => ?_) (fun q9 => absurd (by decide) q9)
    refine w_aload_n 0 dL_start_180 rfl rfl ?_
    refine w_aload 4 dL_start_181 rfl ?_
    refine w_aload_n 1 dL_start_183 rfl rfl ?_
    refine x_bipush dL_start_184 (by decide) ?_
    refine w_callS M_L_cell [.ref 1200, vi 21] (st := [.ref 81, .ref 0]) dL_start_186 (ls_33 rfl) (Nat.le_of_ble_eq_true rfl) (by omega) (by omega) (Nat.le_of_ble_eq_true rfl) (c_La_cell (by omega) 21 s5 _ (cell_fr hI5.2.2 hc9 hS (by decide))) XOK.no (fun v h' hq9 => ?_)
    obtain ⟨rfl, rfl⟩ := hq9
    refine x_iconst dL_start_189 ?_
    have hr21 := hrc 21
    refine x_irem dL_start_190 ⟨⟨hr21.1, by unfold R; omega⟩, by decide, by unfold R; omega⟩ ?_
    have hR21 : R (clv s0 21 % 2) := by unfold R; omega
    have k201 : ∀ w, isStr w → (if clv s0 21 % 2 = 0 then 25 else 26) = w → ww C M_L_start 16 70 6600 (83 + cof T + 1 + 1) (QST s0 T (txE (clv s0) z)) XF (83 + cof σe.2.2.length) 62 6000 201 [(0, .ref 0)] [.ref (2000 + w), .ref 81, .ref 0] (hp (83 + cof σe.2.2.length) s5) := by
      intro w hw hwe
      rw [hwe] at hl3 hEe
      refine w_callV MJ_bS [.ref (2000 + w)] (st := [.ref 0]) dL_start_201 (lv_53 rfl) (by omega) hN.1 rfl (Nat.le_of_ble_eq_true rfl) (by omega) (by omega) (Nat.le_of_ble_eq_true rfl) (cJ_bS (n := T) hI5.1 rfl hw hl3.symm hT94 hN) XOK.no (fun v h' hq9 => ?_)
      obtain ⟨rfl, s6, rfl, hB6, hF6⟩ := hq9
      rw [← hEe] at hB6
      have hn9 : 83 + cof T + 1 = 84 + cof T := by omega
      refine w_callV MJ_toS [] (st := [.ref 0]) dL_start_204 (lv_67 rfl) (by omega) hN.1 rfl (Nat.le_of_ble_eq_true rfl) (by omega) (by omega) (Nat.le_of_ble_eq_true rfl) (cJ_toS hB6 hN hsa (by rw [← hTT]; exact hsb)) XOK.no (fun v h' hq9 => ?_)
      obtain ⟨rfl, s7, rfl, hT7, hF7⟩ := hq9
      have hX : FrX (cof T) s0 s7 := fun a ha => by
        have hm := cof_mono (show σe.2.2.length ≤ T by omega)
        obtain ⟨a1, a2, a3⟩ := hI5.2.2 a (by omega)
        obtain ⟨b1, b2, b3⟩ := hF6 a (by omega)
        obtain ⟨c1, c2, c3⟩ := hF7 a (by omega)
        exact ⟨c1.trans (b1.trans a1), c2.trans (b2.trans a2), c3.trans (b3.trans a3)⟩
      obtain ⟨o, ho⟩ := hload s7 hX hT7
      refine w_callS M_L_load [.ref 0, .ref (83 + cof T)] (st := []) dL_start_207 (ls_71 rfl) (Nat.le_of_ble_eq_true rfl) (by omega) (by omega) (Nat.le_of_ble_eq_true rfl) (c_La_load (by omega) hsa (by rw [hn9, ← hTT]; exact hsb) ⟨by omega, by omega⟩ (by omega) hL s7 o ho) XOK.no (fun v h' hq9 => ?_)
      obtain ⟨rfl, rfl⟩ := hq9
      exact w_ireturn (ty := .int) rfl rfl dL_start_210 rfl (by omega) (by omega) ⟨s7, o, hX, hT7, ho, rfl, rfl⟩
    by_cases h21 : clv s0 21 % 2 = 0
    · refine w_ifne dL_start_191 rfl (fun q9 => absurd ((zE hR21).mpr h21) q9) (fun _ => ?_)
      refine x_ldcS (q := 2025) (tx := ";turn red") dL_start_194 (by decide) (by decide) ?_
      refine w_goto dL_start_196 rfl ?_
      refine w_wid (k2 := 62) (n2 := 6000) (by omega) (by omega) ?_
      refine w_lv (lv' := [(0, .ref 0)]) [0] rfl ?_
      exact k201 25 (by unfold isStr; omega) (if_pos h21)
    · refine w_ifne dL_start_191 rfl (fun _ => ?_) (fun q9 => absurd ((zE hR21).mp q9) h21)
      refine x_ldcS (q := 2026) (tx := ";turn blue") dL_start_199 (by decide) (by decide) ?_
      refine w_wid (k2 := 62) (n2 := 6000) (by omega) (by omega) ?_
      refine w_lv (lv' := [(0, .ref 0)]) [0] rfl ?_
      exact k201 26 (by unfold isStr; omega) (if_neg h21)
  by_cases h1 : clv s0 1 % 2 = 0
  · refine w_ifne dL_start_36 rfl (fun q9 => absurd ((zE hR1).mpr h1) q9) (fun _ => ?_)
    refine x_ldcS (q := 2021) (tx := " swap") dL_start_39 (by decide) (by decide) ?_
    refine w_goto dL_start_41 rfl ?_
    refine w_wid (k2 := 5) (n2 := 400) (by omega) (by omega) ?_
    exact k46 21 (by unfold isStr; omega) (if_pos h1)
  · refine w_ifne dL_start_36 rfl (fun _ => ?_) (fun q9 => absurd ((zE hR1).mp q9) h1)
    refine x_ldcS (q := 2022) (tx := "") dL_start_44 (by decide) (by decide) ?_
    refine w_wid (k2 := 5) (n2 := 400) (by omega) (by omega) ?_
    exact k46 22 (by unfold isStr; omega) (if_neg h1)

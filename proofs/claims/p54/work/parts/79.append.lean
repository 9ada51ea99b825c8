/-! ===== bytes are appended ===== -/
theorem shr_bits (a : BitVec 64) (k : Nat) (hk : k ≤ 56) : a.sshiftRight k &&& 255#64 = a >>> k &&& 255#64 := by
  apply BitVec.eq_of_getLsbD_eq
  intro i hi
  rw [BitVec.getLsbD_and, BitVec.getLsbD_and, BitVec.getLsbD_sshiftRight, BitVec.getLsbD_ushiftRight]
  by_cases h : i < 8
  · have h0 : decide (64 ≤ i) = false := decide_eq_false (by omega)
    rw [if_pos (by omega), h0, Bool.not_false, Bool.true_and]
  · have e : (255#64).getLsbD i = false := by
      rw [BitVec.getLsbD_ofNat, Nat.testBit_lt_two_pow]
      · simp
      · exact Nat.lt_of_lt_of_le (show 255 < 2 ^ 8 by decide) (Nat.pow_le_pow_right (by decide) (by omega))
    rw [e, Bool.and_false, Bool.and_false]
theorem lsh_eq (x : Int) {k : Nat} (hk : k < 8) : landI (lushrI x (8 * (k : Int))) 255 = landI (lshrI x (8 * (k : Int))) 255 := by
  unfold landI lushrI lshrI
  rw [Int64.ofInt_toInt, Int64.ofInt_toInt]
  congr 1
  apply Int64.toBitVec_inj.mp
  have h : ∀ k : Fin 8, ((Int32.ofInt (8 * ((k : Nat) : Int))).toInt64 &&& 63) = Int64.ofNat (8 * (k : Nat)) ∧ ((Int32.ofInt (8 * ((k : Nat) : Int))).toInt64.toUInt64 &&& Int64.toUInt64 63) = UInt64.ofNat (8 * (k : Nat)) := by decide
  obtain ⟨h1, h2⟩ := h ⟨k, hk⟩
  have h1 : ((Int32.ofInt (8 * (k : Int))).toInt64 &&& 63) = Int64.ofNat (8 * k) := h1
  have h2 : ((Int32.ofInt (8 * (k : Int))).toInt64.toUInt64 &&& Int64.toUInt64 63) = UInt64.ofNat (8 * k) := h2
  rw [h1, h2, Int64.toBitVec_and, Int64.toBitVec_and, Int64.toBitVec_shiftRight]
  have h3 : ∀ k : Fin 8, ((Int64.ofNat (8 * (k : Nat))).toBitVec.smod 64).toNat = 8 * (k : Nat) := by decide
  have h3 := h3 ⟨k, hk⟩
  have h3 : ((Int64.ofNat (8 * k)).toBitVec.smod 64).toNat = 8 * k := h3
  show ((Int64.ofInt x).toUInt64 >>> UInt64.ofNat (8 * k)).toBitVec &&& _ = _
  rw [UInt64.toBitVec_shiftRight]
  have h4 : ∀ k : Fin 8, ((UInt64.ofNat (8 * (k : Nat))).toBitVec % 64).toNat = 8 * (k : Nat) := by decide
  have h4 := h4 ⟨k, hk⟩
  have h4 : ((UInt64.ofNat (8 * k)).toBitVec % 64).toNat = 8 * k := h4
  show (Int64.ofInt x).toBitVec >>> ((UInt64.ofNat (8 * k)).toBitVec % 64) &&& 255#64 = (Int64.ofInt x).toBitVec.sshiftRight ((Int64.ofNat (8 * k)).toBitVec.smod 64).toNat &&& 255#64
  rw [h3, shr_bits _ _ (by omega)]
  show (Int64.ofInt x).toBitVec >>> ((UInt64.ofNat (8 * k)).toBitVec % 64).toNat &&& 255#64 = _
  rw [h4]
theorem land_rg (y : Int) : 0 ≤ landI y 255 ∧ landI y 255 ≤ 255 := by
  unfold landI
  have h1 : (Int64.ofInt y &&& Int64.ofInt 255).toBitVec.toNat ≤ 255 := by
    rw [Int64.toBitVec_and, BitVec.toNat_and]
    exact Nat.and_le_right
  have h2 : (Int64.ofInt y &&& Int64.ofInt 255).toInt = ((Int64.ofInt y &&& Int64.ofInt 255).toBitVec.toNat : Int) := by
    show (Int64.ofInt y &&& Int64.ofInt 255).toBitVec.toInt = _
    rw [BitVec.toInt_eq_toNat_of_lt (by omega)]
  omega
theorem sx_b {v : Int} (h : 0 ≤ v ∧ v ≤ 255) : i2bI (i2bI v) = sx v := by
  have k : ∀ n : Fin 256, i2bI (i2bI ((n : Nat) : Int)) = sx ((n : Nat) : Int) := by decide +kernel
  obtain ⟨n, rfl⟩ := Int.eq_ofNat_of_zero_le h.1
  exact k ⟨n, by omega⟩
/-- the k-th byte of a long, the lowest first -/
def bt (x : Int) (k : Nat) : Int := landI (lshrI x (8 * (k : Int))) 255
theorem bt_rg (x : Int) (k : Nat) : 0 ≤ bt x k ∧ bt x k ≤ 255 := land_rg _
/-- how many of the first bytes, from the highest on, from the lowest on, aren't 0 -/
def smd (x : Int) : Nat → Nat
  | 0 => 0
  | j + 1 => smd x j + (if bt x (7 - j) = 0 then 0 else 1)
def smu (x : Int) : Nat → Nat
  | 0 => 0
  | j + 1 => smu x j + (if bt x j = 0 then 0 else 1)
theorem smd_smu (x : Int) : smd x 8 = smu x 8 := by
  simp only [smd, smu, Nat.sub_zero, Nat.reduceSub, Nat.sub_self]
  omega
theorem smd_mono (x : Int) {i : Nat} : ∀ j, smd x i ≤ smd x (i + j)
  | 0 => Nat.le_refl _
  | j + 1 => Nat.le_trans (smd_mono x j) (Nat.le_add_right _ _)
theorem smd_le (x : Int) : ∀ j, smd x j ≤ j
  | 0 => Nat.le_refl _
  | j + 1 => by
    have := smd_le x j
    show smd x j + (if bt x (7 - j) = 0 then 0 else 1) ≤ j + 1
    split <;> omega
theorem smu_le (x : Int) : ∀ j, smu x j ≤ j
  | 0 => Nat.le_refl _
  | j + 1 => by
    have := smu_le x j
    show smu x j + (if bt x j = 0 then 0 else 1) ≤ j + 1
    split <;> omega
/-- the text behind the first bytes -/
def apb (x : Int) (il : Nat) (ib : Nat → Int) : Nat → Nat → Int
  | 0 => ib
  | j + 1 => if bt x (7 - j) = 0 then apb x il ib j else ups (apb x il ib j) (il + smd x j) (bt x (7 - j))
section APP
variable {X : Xs} {s : Sg} {x : Int}
theorem countC (x : Int) (s : Sg) : whl (fun σ : Int × Int => Hx_append_t6 x σ.1 σ.2 s) (0, 56) = some ((smd x 8 : Nat) : Int) := by
  have h : okP (whl (fun σ : Int × Int => Hx_append_t6 x σ.1 σ.2 s) (0, 56)) (fun r => r = ((smd x 8 : Nat) : Int)) := by
    refine whl_for (fun (j : Nat) (t : Int) => (t, (56 : Int) - 8 * (j : Int))) 8 (fun j t => t = ((smd x j : Nat) : Int)) (i0 := 0) (t0 := 0) (Nat.zero_le _) rfl ?_ ?_
    · rintro j t hj rfl
      have e : (56 : Int) - 8 * (j : Int) = 8 * ((7 - j : Nat) : Int) := by omega
      have hb := bt_rg x (7 - j)
      show okP (Hx_append_t6 x ((smd x j : Nat) : Int) ((56 : Int) - 8 * (j : Int)) s) _
      unfold Hx_append_t6 Hx_append_b27
      rw [ifLt_eq _ _ (by unfold R; omega) R0, if_neg (by omega), e, lsh_eq x (by omega)]
      show okP (grd (RL64 (bt x (7 - j)) ∧ RL64 0) (ifEq (lcmpI (bt x (7 - j)) 0) 0 _ _)) _
      rw [grd_t ⟨by unfold RL64; omega, by unfold RL64; omega⟩]
      by_cases q : bt x (7 - j) = 0
      · rw [q, lcmp_z, ifEq_t R0 R0 rfl]
        refine okP_some (Or.inl ⟨((smd x (j + 1) : Nat) : Int), ?_, rfl⟩)
        have e2 : smd x (j + 1) = smd x j := by
          show smd x j + (if bt x (7 - j) = 0 then 0 else 1) = smd x j
          rw [if_pos q]
          rfl
        rw [e2]
        refine congrArg Sum.inl (Prod.ext rfl ?_)
        show (8 * ((7 - j : Nat) : Int) + (-8)) = (56 : Int) - 8 * ((j + 1 : Nat) : Int)
        omega
      · have e1 : lcmpI (bt x (7 - j)) 0 = 1 := by
          unfold lcmpI
          rw [if_neg (by omega), if_neg q]
        rw [e1, ifEq_f R1 R0 (by omega)]
        refine okP_some (Or.inl ⟨((smd x (j + 1) : Nat) : Int), ?_, rfl⟩)
        have e2 : smd x (j + 1) = smd x j + 1 := by
          show smd x j + (if bt x (7 - j) = 0 then 0 else 1) = smd x j + 1
          rw [if_neg q]
        rw [e2]
        refine congrArg Sum.inl (Prod.ext rfl ?_)
        show (8 * ((7 - j : Nat) : Int) + (-8)) = (56 : Int) - 8 * ((j + 1 : Nat) : Int)
        omega
    · rintro t rfl
      show okP (Hx_append_t6 x ((smd x 8 : Nat) : Int) ((56 : Int) - 8 * ((8 : Nat) : Int)) s) _
      unfold Hx_append_t6
      rw [ifLt_eq _ _ (by unfold R; omega) R0, if_pos (by omega)]
      exact okP_some ⟨_, rfl, rfl⟩
  obtain ⟨r, e, rfl⟩ := h
  exact e
theorem apb_o {il : Nat} {ib : Nat → Int} : ∀ j i, i < il → apb x il ib j i = ib i
  | 0, i, _ => rfl
  | j + 1, i, h => by
    show (if bt x (7 - j) = 0 then apb x il ib j else ups (apb x il ib j) (il + smd x j) (bt x (7 - j))) i = ib i
    split
    · exact apb_o j i h
    · show (if i = il + smd x j then _ else apb x il ib j i) = ib i
      rw [if_neg (by omega)]
      exact apb_o j i h
theorem apb_rg {il : Nat} {ib : Nat → Int} (h : ∀ i, i < il → 1 ≤ ib i ∧ ib i ≤ 255) : ∀ j i, i < il + smd x j → 1 ≤ apb x il ib j i ∧ apb x il ib j i ≤ 255
  | 0, i, hi' => h i hi'
  | j + 1, i, hi' => by
    have hb := bt_rg x (7 - j)
    have hi' : i < il + (smd x j + (if bt x (7 - j) = 0 then 0 else 1)) := hi'
    show 1 ≤ (if bt x (7 - j) = 0 then apb x il ib j else ups (apb x il ib j) (il + smd x j) (bt x (7 - j))) i ∧ (if bt x (7 - j) = 0 then apb x il ib j else ups (apb x il ib j) (il + smd x j) (bt x (7 - j))) i ≤ 255
    by_cases q : bt x (7 - j) = 0
    · rw [if_pos q] at hi' ⊢
      exact apb_rg h j i hi'
    · rw [if_neg q] at hi' ⊢
      show 1 ≤ (if i = il + smd x j then bt x (7 - j) else apb x il ib j i) ∧ (if i = il + smd x j then bt x (7 - j) else apb x il ib j i) ≤ 255
      by_cases z : i = il + smd x j
      · rw [if_pos z]; omega
      · rw [if_neg z]; exact apb_rg h j i (by omega)
theorem addsC {il : Nat} {ib : Nat → Int} (h1 : gi s 48 1 = (il : Int)) (h2 : ∀ i, i < il → gi s 49 i = ib i) (hl : il + smd x 8 ≤ 400) : okP (whl (fun σ : Int × Sg => Hx_append_t55 x σ.1 σ.2) (56, s)) (fun t => Ch [48, 49] s t ∧ gi t 48 1 = ((il + smd x 8 : Nat) : Int) ∧ ∀ i, i < il + smd x 8 → gi t 49 i = apb x il ib 8 i) := by
  have a49 : alen (48 + 1) = 400 := rfl
  refine whl_for (fun (j : Nat) (t : Sg) => ((56 : Int) - 8 * (j : Int), t)) 8 (fun j t => Ch [48, 49] s t ∧ gi t 48 1 = ((il + smd x j : Nat) : Int) ∧ ∀ i, i < il + smd x j → gi t 49 i = apb x il ib j i) (i0 := 0) (t0 := s) (Nat.zero_le _) ⟨Ch.rf _ _, h1, h2⟩ ?_ ?_
  · rintro j t hj ⟨k1, k2, k3⟩
    have e : (56 : Int) - 8 * (j : Int) = 8 * ((7 - j : Nat) : Int) := by omega
    have hb := bt_rg x (7 - j)
    have e9 : (8 * ((7 - j : Nat) : Int) + (-8)) = (56 : Int) - 8 * ((j + 1 : Nat) : Int) := by omega
    show okP (Hx_append_t55 x ((56 : Int) - 8 * (j : Int)) t) _
    unfold Hx_append_t55 Hx_append_b85
    rw [ifLt_eq _ _ (by unfold R; omega) R0, if_neg (by omega), e, lsh_eq x (by omega), lett_eq]
    show okP (ifEq (bt x (7 - j)) 0 _ (bnd (By_add 48 (bt x (7 - j)) t) _)) _
    rw [ifEq_eq _ _ (by unfold R; omega) R0]
    by_cases q : bt x (7 - j) = 0
    · have e2 : smd x (j + 1) = smd x j := by
        show smd x j + (if bt x (7 - j) = 0 then 0 else 1) = smd x j
        rw [if_pos q]
        rfl
      have e3 : apb x il ib (j + 1) = apb x il ib j := if_pos q
      rw [if_pos q, e9]
      refine okP_some (Or.inl ⟨t, rfl, k1, ?_, ?_⟩)
      · rw [e2]; exact k2
      · rw [e2, e3]; exact k3
    · have e2 : smd x (j + 1) = smd x j + 1 := by
        show smd x j + (if bt x (7 - j) = 0 then 0 else 1) = smd x j + 1
        rw [if_neg q]
      have e3 : apb x il ib (j + 1) = ups (apb x il ib j) (il + smd x j) (bt x (7 - j)) := if_neg q
      have hm : smd x (j + 1) ≤ smd x 8 := by
        have := smd_mono x (i := j + 1) (8 - (j + 1))
        rw [show j + 1 + (8 - (j + 1)) = 8 by omega] at this
        exact this
      have eT : ((il + smd x j : Nat) : Int).toNat = il + smd x j := rfl
      have ea : By_add 48 (bt x (7 - j)) t = some (si (si t 49 (il + smd x j) (bt x (7 - j))) 48 1 ((il + smd x j + 1 : Nat) : Int)) := by
        unfold By_add
        rw [k2, a49, ifLt_eq _ _ (R_nat (by omega)) R0, if_neg (by omega), ifLt_eq _ _ (R_nat (by omega)) (R_nat (by omega)), if_pos (by omega), grd_t ⟨by omega, by omega⟩, eT, lett_eq, gi_si_o _ _ _ _ (by omega), k2, lett_eq]
        rfl
      rw [if_neg q, ea, bnd_some, e9]
      refine okP_some (Or.inl ⟨_, rfl, k1.tr ((Ch.si (by decide)).tr (Ch.si (by decide))), ?_, fun i hi' => ?_⟩)
      · rw [gi_si_s, e2]; rfl
      · rw [gi_si_o _ _ _ _ (by omega), e3, gi_si_r]
        show _ = if i = il + smd x j then bt x (7 - j) else apb x il ib j i
        by_cases z : i = il + smd x j
        · rw [if_pos z, if_pos z]
        · rw [if_neg z, if_neg z]
          exact k3 i (by omega)
  · rintro t ⟨k1, k2, k3⟩
    show okP (Hx_append_t55 x ((56 : Int) - 8 * ((8 : Nat) : Int)) t) _
    unfold Hx_append_t55
    rw [ifLt_eq _ _ (by unfold R; omega) R0, if_pos (by omega)]
    exact okP_some ⟨t, rfl, k1, k2, k3⟩
theorem XsOK.wi (hX : XsOK X) {il : Nat} {ib : Nat → Int} (h : il ≤ 400) (hb : ∀ i, i < il → 1 ≤ ib i ∧ ib i ≤ 255) : XsOK (X.wi il ib) :=
  ⟨hX.1, hX.2.1, hX.2.2.1, h, hb, hX.2.2.2.2.2⟩
theorem CI.inp {t : Sg} {il : Nat} {ib : Nat → Int} (hC : CI X s) {L : List Nat} (hc : Ch L s t) (h1 : gi t 48 1 = (il : Int)) (h2 : ∀ i, i < il → gi t 49 i = ib i) (hL : ∀ x ∈ PC, x ∉ [48, 49] → x ∉ L := by decide) (hS : ∀ x ∈ L, x < 1000 := by decide) : CI (X.wi il ib) t := by
  obtain ⟨-, ⟨a3, a4⟩, a5, a6, a7⟩ := hC.2.2.2
  refine ⟨hC.1.ch hc (fun x hx => hL x (by revert x; decide) (by revert x; decide)) hS, hC.2.1.ch hc (hL 16 (by decide) (by decide)) (fun j hj => ⟨hL _ (by revert j; decide) (by revert j; decide), hL _ (by revert j; decide) (by revert j; decide), hL _ (by revert j; decide) (by revert j; decide)⟩), hC.2.2.1.ch hc (fun x hx => hL x (by revert x; decide) (by revert x; decide)), ⟨h1, h2⟩, ⟨(hc.g 50 (hL 50 (by decide) (by decide))).trans a3, fun i hi' => (hc.g 51 (hL 51 (by decide) (by decide))).trans (a4 i hi')⟩, (hc.g 52 (hL 52 (by decide) (by decide))).trans a5, a6, fun e => (hc.g 52 (hL 52 (by decide) (by decide))).trans (a7 e)⟩
end APP


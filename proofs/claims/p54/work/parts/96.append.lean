/-! ===== the text comes in, eight bytes at a time ===== -/
section APW
theorem ofI_nat {n : Nat} (h : n < 9223372036854775808) : (Int64.ofInt (n : Int)).toBitVec.toNat = n := by
  show (BitVec.ofInt 64 (n : Int)).toNat = n
  rw [BitVec.toNat_ofInt, show ((2 ^ 64 : Nat) : Int) = 18446744073709551616 from rfl]
  omega
theorem bt_nat {n k : Nat} (hn : n < 9223372036854775808) (hk : k < 8) : bt (n : Int) k = ((n / 2 ^ (8 * k) % 256 : Nat) : Int) := by
  have h1 : (Int32.ofInt (8 * (k : Int))).toInt64 &&& 63 = Int64.ofNat (8 * k) := by
    have h : ∀ k : Fin 8, (Int32.ofInt (8 * ((k : Nat) : Int))).toInt64 &&& 63 = Int64.ofNat (8 * (k : Nat)) := by decide
    exact h ⟨k, hk⟩
  have h3 : ((Int64.ofNat (8 * k)).toBitVec.smod 64).toNat = 8 * k := by
    have h : ∀ k : Fin 8, ((Int64.ofNat (8 * (k : Nat))).toBitVec.smod 64).toNat = 8 * (k : Nat) := by decide
    exact h ⟨k, hk⟩
  unfold bt landI lshrI
  rw [Int64.ofInt_toInt, h1]
  have e : ((Int64.ofInt (n : Int) >>> Int64.ofNat (8 * k)) &&& Int64.ofInt 255).toBitVec.toNat = n / 2 ^ (8 * k) % 256 := by
    rw [Int64.toBitVec_and, Int64.toBitVec_shiftRight]
    show ((Int64.ofInt (n : Int)).toBitVec.sshiftRight ((Int64.ofNat (8 * k)).toBitVec.smod 64).toNat &&& 255#64).toNat = _
    rw [h3, shr_bits _ _ (by omega), BitVec.toNat_and, BitVec.toNat_ushiftRight, ofI_nat hn, Nat.shiftRight_eq_div_pow, show (255#64).toNat = 2 ^ 8 - 1 from rfl, Nat.and_two_pow_sub_one_eq_mod]
  show ((Int64.ofInt (n : Int) >>> Int64.ofNat (8 * k)) &&& Int64.ofInt 255).toBitVec.toInt = _
  rw [BitVec.toInt_eq_toNat_of_lt (by rw [e]; omega), e]
theorem sho_nat {n b : Nat} (hn : n < 36028797018963968) (hb : b < 256) : lorI (lshlI (n : Int) 8) (b : Int) = ((n * 256 + b : Nat) : Int) := by
  have h1 : (Int32.ofInt 8).toInt64 &&& 63 = Int64.ofNat 8 := by decide
  unfold lorI lshlI
  rw [Int64.ofInt_toInt, h1]
  have e : ((Int64.ofInt (n : Int) <<< Int64.ofNat 8) ||| Int64.ofInt (b : Int)).toBitVec.toNat = n * 256 + b := by
    rw [Int64.toBitVec_or, Int64.toBitVec_shiftLeft]
    show ((Int64.ofInt (n : Int)).toBitVec <<< ((Int64.ofNat 8).toBitVec.smod 64).toNat ||| (Int64.ofInt (b : Int)).toBitVec).toNat = _
    rw [show ((Int64.ofNat 8).toBitVec.smod 64).toNat = 8 by decide, BitVec.toNat_or, BitVec.toNat_shiftLeft, ofI_nat (by omega), ofI_nat (by omega), Nat.shiftLeft_eq, Nat.mod_eq_of_lt (by omega), Nat.mul_comm n, ← Nat.two_pow_add_eq_or_of_lt (show b < 2 ^ 8 by omega)]
  show ((Int64.ofInt (n : Int) <<< Int64.ofNat 8) ||| Int64.ofInt (b : Int)).toBitVec.toInt = _
  rw [BitVec.toInt_eq_toNat_of_lt (by rw [e]; omega), e]
/-- the number of m bytes from p on -/
def wv (L : List Int) (p : Nat) : Nat → Nat
  | 0 => 0
  | m + 1 => wv L p m * 256 + (L.getD (p + m) 0).toNat
theorem wv_lt {L : List Int} (hL : ∀ j, j < L.length → 1 ≤ L.getD j 0 ∧ L.getD j 0 < 128) (p : Nat) : ∀ m, p + m ≤ L.length → 2 * wv L p m < 256 ^ m
  | 0, _ => by show 2 * 0 < 256 ^ 0; decide
  | m + 1, h => by
    have ih := wv_lt hL p m (by omega)
    have hb := hL (p + m) (by omega)
    show 2 * (wv L p m * 256 + (L.getD (p + m) 0).toNat) < 256 ^ (m + 1)
    rw [Nat.pow_succ]
    omega
theorem wv_b {L : List Int} (hL : ∀ j, j < L.length → 1 ≤ L.getD j 0 ∧ L.getD j 0 < 128) (p : Nat) : ∀ m, p + m ≤ L.length → ∀ k, wv L p m / 2 ^ (8 * k) % 256 = if k < m then (L.getD (p + (m - 1 - k)) 0).toNat else 0
  | 0, _, k => by
    show 0 / 2 ^ (8 * k) % 256 = _
    rw [Nat.zero_div, if_neg (by omega)]
  | m + 1, h, k => by
    have hb := hL (p + m) (by omega)
    show (wv L p m * 256 + (L.getD (p + m) 0).toNat) / 2 ^ (8 * k) % 256 = _
    cases k with
    | zero =>
      rw [if_pos (by omega), show m + 1 - 1 - 0 = m by omega]
      show (wv L p m * 256 + (L.getD (p + m) 0).toNat) / 2 ^ 0 % 256 = _
      rw [Nat.pow_zero, Nat.div_one]
      omega
    | succ j =>
      have ih := wv_b hL p m (by omega) j
      rw [show 8 * (j + 1) = 8 + 8 * j by omega, Nat.pow_add, ← Nat.div_div_eq_div_mul, show (wv L p m * 256 + (L.getD (p + m) 0).toNat) / 2 ^ 8 = wv L p m by omega, ih]
      by_cases q : j < m
      · rw [if_pos q, if_pos (by omega), show m + 1 - 1 - (j + 1) = m - 1 - j by omega]
      · rw [if_neg q, if_neg (by omega)]
section BYT
variable {x : Int} {m : Nat} {g : Nat → Int}
theorem smd_v (hm : m ≤ 8) (hg : ∀ i, i < m → g i ≠ 0) (hb : ∀ k, k < 8 → bt x k = if k < m then g (m - 1 - k) else 0) : ∀ j, j ≤ 8 → smd x j = j - (8 - m)
  | 0, _ => by show 0 = _; omega
  | j + 1, hj => by
    have ih := smd_v hm hg hb j (by omega)
    show smd x j + (if bt x (7 - j) = 0 then 0 else 1) = _
    rw [ih, hb (7 - j) (by omega)]
    by_cases q : 7 - j < m
    · rw [if_pos q, if_neg (hg _ (by omega))]
      omega
    · rw [if_neg q, if_pos rfl]
      omega
theorem apb_v (hm : m ≤ 8) (hg : ∀ i, i < m → g i ≠ 0) (hb : ∀ k, k < 8 → bt x k = if k < m then g (m - 1 - k) else 0) (il : Nat) (ib : Nat → Int) : ∀ j, j ≤ 8 → ∀ i, apb x il ib j i = if il ≤ i ∧ i < il + (j - (8 - m)) then g (i - il) else ib i
  | 0, _, i => by
    show ib i = _
    rw [if_neg (by omega)]
  | j + 1, hj, i => by
    have ih := apb_v hm hg hb il ib j (by omega) i
    have hs := smd_v hm hg hb j (by omega)
    show (if bt x (7 - j) = 0 then apb x il ib j else ups (apb x il ib j) (il + smd x j) (bt x (7 - j))) i = _
    rw [hb (7 - j) (by omega)]
    by_cases q : 7 - j < m
    · rw [if_pos q, if_neg (hg _ (by omega)), hs]
      show (if i = il + (j - (8 - m)) then g (m - 1 - (7 - j)) else apb x il ib j i) = _
      by_cases e : i = il + (j - (8 - m))
      · rw [if_pos e, if_pos (by omega), show i - il = m - 1 - (7 - j) by omega]
      · rw [if_neg e, ih]
        by_cases e2 : il ≤ i ∧ i < il + (j - (8 - m))
        · rw [if_pos e2, if_pos (by omega)]
        · rw [if_neg e2, if_neg (by omega)]
    · rw [if_neg q, if_pos rfl, ih]
      by_cases e2 : il ≤ i ∧ i < il + (j - (8 - m))
      · rw [if_pos e2, if_pos (by omega)]
      · rw [if_neg e2, if_neg (by omega)]
end BYT
/-- m bytes are appended -/
theorem app_ok {L : List Int} (hL : ∀ j, j < L.length → 1 ≤ L.getD j 0 ∧ L.getD j 0 < 128) {p m : Nat} {s : Sg} (hm : m ≤ 8) (hp : p + m ≤ L.length) (h4 : L.length ≤ 400) (h1 : gi s 48 1 = (p : Int)) (h2 : ∀ i, i < p → gi s 49 i = L.getD i 0) : okP (Hx_append ((wv L p m : Nat) : Int) s) (fun o => Ch [48, 49] s o.2 ∧ gi o.2 48 1 = ((p + m : Nat) : Int) ∧ ∀ i, i < p + m → gi o.2 49 i = L.getD i 0) := by
  have hlt := wv_lt hL p m hp
  have hpw : 256 ^ m ≤ 256 ^ 8 := Nat.pow_le_pow_right (by decide) hm
  have hn : wv L p m < 9223372036854775808 := by
    have e8 : 256 ^ 8 = 18446744073709551616 := by decide
    omega
  have hg : ∀ i, i < m → L.getD (p + i) 0 ≠ 0 := fun i hi => by
    have := hL (p + i) (by omega)
    omega
  have hb : ∀ k, k < 8 → bt ((wv L p m : Nat) : Int) k = if k < m then L.getD (p + (m - 1 - k)) 0 else 0 := fun k hk => by
    rw [bt_nat hn hk, wv_b hL p m hp k]
    by_cases q : k < m
    · have := hL (p + (m - 1 - k)) (by omega)
      rw [if_pos q, if_pos q]
      omega
    · rw [if_neg q, if_neg q]
      rfl
  have e1 : smd ((wv L p m : Nat) : Int) 8 = m := by
    rw [smd_v (g := fun i => L.getD (p + i) 0) hm hg hb 8 (by omega)]
    omega
  have hmR : R ((m : Nat) : Int) := R_nat (by omega)
  unfold Hx_append Hx_append_l6
  rw [countC, e1, bnd_some, h1, ifLt_eq _ _ (by unfold R; omega) (by unfold R; omega), if_neg (by omega)]
  unfold Hx_append_l55
  refine okP_bnd (addsC (il := p) (ib := fun i => L.getD i 0) h1 h2 (by rw [e1]; omega)) ?_
  rintro t - ⟨t1, t2, t3⟩
  rw [e1] at t2 t3
  refine okP_some ⟨t1, t2, fun i hi => ?_⟩
  rw [t3 i hi, apb_v (g := fun i => L.getD (p + i) 0) hm hg hb p _ 8 (by omega) i]
  by_cases q : p ≤ i ∧ i < p + (8 - (8 - m))
  · rw [if_pos q]
    show L.getD (p + (i - p)) 0 = _
    rw [show p + (i - p) = i by omega]
  · rw [if_neg q]
/-- all of the text -/
theorem ldw_ok {a : Nat} {L : List Int} (ha : 80 ≤ a) (h4 : L.length ≤ 400) (hL : ∀ j, j < L.length → 1 ≤ L.getD j 0 ∧ L.getD j 0 < 128) : ∀ (t : List Int) (k p : Nat) (s : Sg), L.drop k = t → p ≤ k → k ≤ L.length → (t = [] → p = k) → (t ≠ [] → k - p = k % 8) → Txt s a L → gi s 48 1 = (p : Int) → (∀ i, i < p → gi s 49 i = L.getD i 0) → okP (La_ldw a L t k ((wv L p (k - p) : Nat) : Int) s) (fun s' => Ch [48, 49] s s' ∧ gi s' 48 1 = (L.length : Int) ∧ ∀ i, i < L.length → gi s' 49 i = L.getD i 0)
  | [], k, p, s, hd, hpk, hk, hp, _, hT, h1, h2 => by
    have hkL : k = L.length := by
      have := congrArg List.length hd
      rw [List.length_drop] at this
      simp at this
      omega
    have hpk2 := hp rfl
    unfold La_ldw
    rw [grd_t hT]
    refine okP_some ⟨Ch.rf _ _, ?_, ?_⟩
    · rw [h1, hpk2, hkL]
    · rw [← hkL, ← hpk2]
      exact h2
  | x :: t, k, p, s, hd, hpk, hk, _, hp8, hT, h1, h2 => by
    have hkL : k < L.length := by
      have := congrArg List.length hd
      rw [List.length_drop] at this
      simp at this
      omega
    have hx : L.getD k 0 = x := by
      have h0 : (L.drop k)[0]? = some x := by rw [hd]; rfl
      rw [List.getElem?_drop, Nat.add_zero] at h0
      rw [List.getD_eq_getElem?_getD, h0]
      rfl
    have ht : L.drop (k + 1) = t := by
      rw [← List.drop_drop, hd]
      rfl
    have h8 := hp8 (by intro z; cases z)
    have hxr := hL k hkL
    rw [hx] at hxr
    have hwl := wv_lt hL p (k - p) (by omega)
    have hpw : 256 ^ (k - p) ≤ 256 ^ 7 := Nat.pow_le_pow_right (by decide) (by omega)
    have e7 : 256 ^ 7 = 72057594037927936 := by decide
    have ew : lorI (lshlI ((wv L p (k - p) : Nat) : Int) 8) x = ((wv L p (k + 1 - p) : Nat) : Int) := by
      have e := sho_nat (n := wv L p (k - p)) (b := x.toNat) (by omega) (by omega)
      rw [show ((x.toNat : Nat) : Int) = x by omega] at e
      rw [e, show k + 1 - p = (k - p) + 1 by omega]
      show _ = ((wv L p (k - p) * 256 + (L.getD (p + (k - p)) 0).toNat : Nat) : Int)
      rw [show p + (k - p) = k by omega, hx]
    unfold La_ldw
    rw [grd_t hT, ew]
    by_cases c : k % 8 = 7 ∨ t = []
    · rw [if_pos c]
      refine okP_bnd2 (app_ok hL (p := p) (m := k + 1 - p) (by omega) (by omega) h4 h1 h2) ?_
      rintro y u - ⟨u1, u2, u3⟩
      have u1 : Ch [48, 49] s u := u1
      have u2 : gi u 48 1 = ((p + (k + 1 - p) : Nat) : Int) := u2
      have u3 : ∀ i, i < p + (k + 1 - p) → gi u 49 i = L.getD i 0 := u3
      rw [show p + (k + 1 - p) = k + 1 by omega] at u2 u3
      have hcf : CF s u := u1.cf
      have hTu : Txt u a L := ⟨(congrArg (fun z : (Nat → Nat → Int) × (Nat → Nat → Nat) => z.2 a 0) u1.2).trans hT.1, (hcf a 1 ha).trans hT.2.1, fun j hj => (hcf (a + 1) j (by omega)).trans (hT.2.2 j hj)⟩
      have ih := ldw_ok ha h4 hL t (k + 1) (k + 1) u ht (Nat.le_refl _) hkL (fun _ => rfl) (fun z => by
        have : k % 8 = 7 := c.resolve_right z
        omega) hTu u2 u3
      rw [Nat.sub_self] at ih
      have ih : okP (La_ldw a L t (k + 1) 0 u) _ := ih
      exact okP_mono ih fun o ⟨o1, o2⟩ => ⟨u1.tr o1, o2⟩
    · rw [if_neg c]
      exact ldw_ok ha h4 hL t (k + 1) p s ht (by omega) hkL (fun z => absurd (Or.inr z) c) (fun _ => by
        have : ¬ k % 8 = 7 := fun z => c (Or.inl z)
        omega) hT h1 h2
end APW

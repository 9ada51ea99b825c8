/-! ===== the floats (over the whole library) ===== -/
section FLT
theorem nn32 {r : UInt32} (h : FP.Core.val32 r ≠ .nan) : vf_n32 r := by
  have h1 : ¬ FP.Core.infBits FP.Core.b32 < FP.Core.mag FP.Core.b32 r.toNat := fun q => h ((FP.Core.decode_nan r.toNat).mpr q)
  have e1 : FP.Core.infBits FP.Core.b32 = 2139095040 := by decide +kernel
  have e3 : FP.Core.half FP.Core.b32 = 2147483648 := by decide +kernel
  have e2 : FP.Core.mag FP.Core.b32 r.toNat = r.toNat % 2147483648 := by
    unfold FP.Core.mag
    rw [e3]
  unfold vf_n32
  have c1 : (0x7fffffff : UInt32).toNat = 2 ^ 31 - 1 := rfl
  have c2 : (0x7f800000 : UInt32).toNat = 2139095040 := rfl
  rw [UInt32.le_iff_toNat_le, UInt32.toNat_and, c1, c2, Nat.and_two_pow_sub_one_eq_mod]
  omega
theorem nn64 {r : UInt64} (h : FP.Core.val64 r ≠ .nan) : vf_n64 r := by
  have h1 : ¬ FP.Core.infBits FP.Core.b64 < FP.Core.mag FP.Core.b64 r.toNat := fun q => h ((FP.Core.decode_nan r.toNat).mpr q)
  have e1 : FP.Core.infBits FP.Core.b64 = 9218868437227405312 := by decide +kernel
  have e3 : FP.Core.half FP.Core.b64 = 9223372036854775808 := by decide +kernel
  have e2 : FP.Core.mag FP.Core.b64 r.toNat = r.toNat % 9223372036854775808 := by
    unfold FP.Core.mag
    rw [e3]
  unfold vf_n64
  have c1 : (0x7fffffffffffffff : UInt64).toNat = 2 ^ 63 - 1 := rfl
  have c2 : (0x7ff0000000000000 : UInt64).toNat = 9218868437227405312 := rfl
  rw [UInt64.le_iff_toNat_le, UInt64.toNat_and, c1, c2, Nat.and_two_pow_sub_one_eq_mod]
  omega
theorem quot_nn (f : FP.Core.Fmt) {s : Bool} {c : Nat} {q : Int} {d : FP.Core.Datum} (hc : c ≠ 0) (hd : d ≠ .nan) : FP.Core.quotient f (.fin s c q) d ≠ .nan := by
  cases d with
  | nan => exact absurd rfl hd
  | inf t => intro h; cases h
  | fin t e r =>
    show (if e = 0 then (if c = 0 then FP.Core.Datum.nan else .inf (s != t)) else FP.Core.roundRatio f (s != t) c e (q - r)) ≠ .nan
    split
    · intro h; cases h
    · exact FP.Core.roundRatio_ne_nan _ _ _ _ _
theorem quot_nn2 (f : FP.Core.Fmt) {s t : Bool} {c e : Nat} {q r : Int} (he : e ≠ 0) : FP.Core.quotient f (.fin s c q) (.fin t e r) ≠ .nan := by
  show (if e = 0 then (if c = 0 then FP.Core.Datum.nan else .inf (s != t)) else FP.Core.roundRatio f (s != t) c e (q - r)) ≠ .nan
  rw [if_neg he]
  exact FP.Core.roundRatio_ne_nan _ _ _ _ _
theorem res_nn (y : Int32) : vf_n32 (FP.fdiv (1232348160 : UInt32) (FP.i2f y)) := by
  refine nn32 ?_
  show FP.Core.val32 (FP.Core.fdiv (1232348160 : UInt32) (FP.Core.i2f y)) ≠ .nan
  rw [FP.Core.val32_fdiv, FP.Core.val32_i2f]
  have e : ∃ s c q, FP.Core.val32 (1232348160 : UInt32) = .fin s c q ∧ c ≠ 0 := ⟨false, 16000000, -4, by decide +kernel, by decide⟩
  obtain ⟨s, c, q, e1, e2⟩ := e
  rw [e1]
  exact quot_nn _ e2 (FP.Core.roundRatio_ne_nan _ _ _ _ _)
theorem bal_nn {x y : Int32} (hx : x.toInt ≠ 0) : vf_n64 (FP.ddiv (FP.i2d y) (FP.i2d x)) := by
  refine nn64 ?_
  show FP.Core.val64 (FP.Core.ddiv (FP.Core.i2d y) (FP.Core.i2d x)) ≠ .nan
  rw [FP.Core.val64_ddiv, FP.Core.val64_i2d, FP.Core.val64_i2d]
  have hb : ∀ z : Int32, z.toInt.natAbs < 2 ^ FP.Core.b64.p := by
    intro z
    have h1 := z.le_toInt
    have h2 := z.toInt_lt
    show z.toInt.natAbs < 2 ^ 53
    omega
  have q1 : FP.Core.b64.qmin ≤ 0 := by decide +kernel
  have q2 : (0 : Int) ≤ FP.Core.b64.qmax := by decide +kernel
  obtain ⟨c, q, e1, -⟩ := FP.Core.round_exact FP.Core.good_b64 (decide (y.toInt < 0)) (hb y) q1 q2
  obtain ⟨c', q', e2, e3⟩ := FP.Core.round_exact FP.Core.good_b64 (decide (x.toInt < 0)) (hb x) q1 q2
  unfold FP.Core.ofInt
  rw [e1, e2]
  refine quot_nn2 _ ?_
  rintro rfl
  unfold FP.Core.inUnits at e3
  rw [Nat.zero_mul] at e3
  have hp : 0 < x.toInt.natAbs * 2 ^ (0 - FP.Core.b64.qmin).toNat := Nat.mul_pos (by omega) (Nat.two_pow_pos _)
  omega
theorem nan32 {x : UInt32} (h : vf_n32 x) : FP.Core.val32 x ≠ .nan := by
  intro q
  have h1 : FP.Core.infBits FP.Core.b32 < FP.Core.mag FP.Core.b32 x.toNat := (FP.Core.decode_nan x.toNat).mp q
  have e1 : FP.Core.infBits FP.Core.b32 = 2139095040 := by decide +kernel
  have e3 : FP.Core.half FP.Core.b32 = 2147483648 := by decide +kernel
  have e2 : FP.Core.mag FP.Core.b32 x.toNat = x.toNat % 2147483648 := by
    unfold FP.Core.mag
    rw [e3]
  unfold vf_n32 at h
  have c1 : (0x7fffffff : UInt32).toNat = 2 ^ 31 - 1 := rfl
  have c2 : (0x7f800000 : UInt32).toNat = 2139095040 := rfl
  rw [UInt32.le_iff_toNat_le, UInt32.toNat_and, c1, c2, Nat.and_two_pow_sub_one_eq_mod] at h
  omega
theorem f2d_nn {x : UInt32} (h : vf_n32 x) : vf_n64 (FP.f2d x) := by
  have h0 : FP.Core.val32 x ≠ .nan := nan32 h
  have h2 : FP.f2d x = FP.Core.f2d x := by
    unfold FP.f2d
    rw [if_neg]
    exact fun q => h0 ((FP.Core.fIsNaN_iff x).mp q)
  rw [h2]
  refine nn64 ?_
  rw [FP.Core.val64_f2d]
  cases e : FP.Core.val32 x with
  | nan => exact absurd e h0
  | inf s => intro q; cases q
  | fin s c q => exact FP.Core.roundRatio_ne_nan _ _ _ _ _
theorem nan64 {x : UInt64} (h : vf_n64 x) : FP.Core.val64 x ≠ .nan := by
  intro q
  have h1 : FP.Core.infBits FP.Core.b64 < FP.Core.mag FP.Core.b64 x.toNat := (FP.Core.decode_nan x.toNat).mp q
  have e1 : FP.Core.infBits FP.Core.b64 = 9218868437227405312 := by decide +kernel
  have e3 : FP.Core.half FP.Core.b64 = 9223372036854775808 := by decide +kernel
  have e2 : FP.Core.mag FP.Core.b64 x.toNat = x.toNat % 9223372036854775808 := by
    unfold FP.Core.mag
    rw [e3]
  unfold vf_n64 at h
  have c1 : (0x7fffffffffffffff : UInt64).toNat = 2 ^ 63 - 1 := rfl
  have c2 : (0x7ff0000000000000 : UInt64).toNat = 9218868437227405312 := rfl
  rw [UInt64.le_iff_toNat_le, UInt64.toNat_and, c1, c2, Nat.and_two_pow_sub_one_eq_mod] at h
  omega
theorem dcmp_nn {x : UInt64} (h : vf_n64 x) : (Op.cmpValue (FP.dcmp x x) .l).toInt = 0 := by
  rw [show FP.dcmp x x = some .eq from FP.Core.dcmp_self (nan64 h)]
  rfl
theorem fcmp_nn {x : UInt32} (h : vf_n32 x) : (Op.cmpValue (FP.fcmp x x) .l).toInt = 0 := by
  rw [show FP.fcmp x x = some .eq from FP.Core.fcmp_self (nan32 h)]
  rfl
end FLT

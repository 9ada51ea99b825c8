/-! ===== the floats: owed; the proof lies in wip/whole/later (it wants the whole library) ===== -/
theorem res_nn (y : Int32) : vf_n32 (FP.fdiv (1232348160 : UInt32) (FP.i2f y)) := by
  sorry
theorem bal_nn {x y : Int32} (hx : x.toInt ≠ 0) : vf_n64 (FP.ddiv (FP.i2d y) (FP.i2d x)) := by
  sorry

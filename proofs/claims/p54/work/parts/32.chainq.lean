/-! ===== the reference's answers on chains ===== -/
section CHQ
variable {s : Sg} {n : Nat} {f : Nat → Int} {sd : Int} {E : Nat → Nat → Prop}
end CHQ


/-! ===== the reference: filled, fillings, idle ===== -/
section FILQ
variable {n : Nat} {f : Nat → Int} {x : Int} {s : Sg}
abbrev Mi : List Nat := [81, 82, 87]
/-- the whole board stands as before -/
def Same (s t : Sg) : Prop := ∀ k, k < 286 → gi t 81 k = gi s 81 k
end FILQ


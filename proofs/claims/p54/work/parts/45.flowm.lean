/-! ===== the reference: the flow ===== -/
def FM (s : Sg) (n : Nat) (L : Nat → Int) : Prop := ∀ c, c < n * n → gi s 98 c = L c
section FLM
variable {s : Sg} {n : Nat} {f : Nat → Int} {sd : Int} {L : Nat → Int}
end FLM


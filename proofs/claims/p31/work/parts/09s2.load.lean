/-! load -/
theorem nad1 (k : Nat) : nI k + 1 = nI (k + 1) := nI_add k 1
section
variable {S : qW} {v1 v2 v3 v4 : Int32} {i m : Nat}
end

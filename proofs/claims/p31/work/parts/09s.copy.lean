/-! copy, load -/
theorem cpy_at (f g : Nat → Int32) (sp dp n k : Nat) : va_cpy f g sp dp n k = if dp ≤ k ∧ k < dp + n then f (sp + (k - dp)) else g k := rfl
section
variable {S : qW} {v1 v2 v3 v4 v5 : Int32} {i j : Nat}
end

/-- the rules that count: those of the texts, n of them, and l learned ones behind room for all; from the k-th on -/
def qact (n l k r : Nat) : Bool := decide (k ≤ r ∧ r < n) || decide (16 ≤ r ∧ r < 16 + l ∧ k ≤ n + (r - 16))

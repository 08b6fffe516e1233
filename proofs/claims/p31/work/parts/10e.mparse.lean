/-! the reference reads, and reckons as it reads -/
theorem qkd_cases (T : qTp) (q : Nat) : qkd T q ≤ 4 ∨ (33 ≤ qkd T q ∧ qkd T q ≤ 62) := by
  unfold qkd
  split
  · split
    · split <;> omega
    · split
      · split
        · split <;> omega
        · split <;> omega
      · split
        · rename_i h; right; exact tsg_le h
        · omega
  · omega

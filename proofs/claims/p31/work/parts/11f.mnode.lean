/-! one node of the reference's search -/
theorem sdear {c : sC} {tr : Nat} (h : ¬ tr = cmo c) (h2 : tr ≤ cmo c) : tr < cmo c := by omega

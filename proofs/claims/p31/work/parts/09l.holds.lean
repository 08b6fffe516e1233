def vN (v : Int32) : Nat := v.toInt.toNat
theorem vN_nI {k : Nat} (h : k < 2 ^ 31) : vN (nI k) = k := by unfold vN; rw [nI_toInt h]; rfl

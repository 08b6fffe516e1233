theorem qcnt_16 {Q : Nat → Bool} (h : ∀ i, 16 ≤ i → i < 24 → Q i = false) : qcnt Q 24 = qcnt Q 16 := by
  have : ∀ m, m ≤ 8 → qcnt Q (16 + m) = qcnt Q 16 := by
    intro m
    induction m with
    | zero => intro _; rfl
    | succ m ih => intro hm; rw [← Nat.add_assoc, qcnt, ih (by omega), h (16 + m) (by omega) (by omega)]; rfl
  exact this 8 (by omega)

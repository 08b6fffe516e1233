/-- the place, where v is one of the first n -/
def vin (n : Nat) (v : Int32) : Option Nat := if 0 ≤ v.toInt ∧ v.toInt < n then some v.toInt.toNat else none
theorem vin_cases (n : Nat) (hn : n < 2 ^ 31) (v : Int32) : (∃ k, k < n ∧ v = nI k ∧ vin n v = some k) ∨ (vin n v = none ∧ (v < 0 ∨ ¬ v < nI n)) := by
  unfold vin
  by_cases h : 0 ≤ v.toInt ∧ v.toInt < n
  · left
    refine ⟨v.toInt.toNat, by omega, Int32.toInt_inj.mp ?_, if_pos h⟩
    rw [nI_toInt (by omega)]; omega
  · right
    refine ⟨if_neg h, ?_⟩
    rw [Int32.lt_iff_toInt_lt, Int32.lt_iff_toInt_lt, nI_toInt hn, Int32.toInt_zero]
    omega
theorem vin_nI {n k : Nat} (hk : k < 2 ^ 31) : vin n (nI k) = if k < n then some k else none := by
  unfold vin
  rw [nI_toInt hk]
  by_cases h : k < n
  · rw [if_pos (by omega), if_pos h]; simp
  · rw [if_neg (by omega), if_neg h]
def vis (n : Nat) (v : Int32) : Bool := (vin n v).isSome
theorem vis_iff (n : Nat) (v : Int32) : vis n v = decide (0 ≤ v.toInt ∧ v.toInt < n) := by
  unfold vis vin
  by_cases h : 0 ≤ v.toInt ∧ v.toInt < n
  · rw [if_pos h, decide_eq_true h]; rfl
  · rw [if_neg h, decide_eq_false h]; rfl
theorem isN_eq {n : Nat} (hn : n < 2 ^ 31) (v : Int32) (h : gH) : (if v < 0 then some ((0 : Int32), h) else if v < nI n then some ((1 : Int32), h) else some ((0 : Int32), h)) = some (b2i (vis n v), h) := by
  rw [vis_iff]
  by_cases h1 : v < 0
  · rw [if_pos h1]
    rw [Int32.lt_iff_toInt_lt, Int32.toInt_zero] at h1
    rw [decide_eq_false (by omega)]; rfl
  · rw [if_neg h1]
    rw [Int32.lt_iff_toInt_lt, Int32.toInt_zero] at h1
    by_cases h2 : v < nI n
    · rw [if_pos h2]
      rw [Int32.lt_iff_toInt_lt, nI_toInt hn] at h2
      rw [decide_eq_true (by omega)]; rfl
    · rw [if_neg h2]
      rw [Int32.lt_iff_toInt_lt, nI_toInt hn] at h2
      rw [decide_eq_false (by omega)]; rfl
theorem fX_isVariable_eq (v : Int32) (h : gH) : fX_isVariable v h = some (b2i (vis 8 v), h) := isN_eq (n := 8) (by decide) v h
theorem fX_isValue_eq (v : Int32) (h : gH) : fX_isValue v h = some (b2i (vis 10 v), h) := isN_eq (n := 10) (by decide) v h
theorem vis_some {n : Nat} (hn : n < 2 ^ 31) {v : Int32} (h : vis n v = true) : ∃ k, k < n ∧ v = nI k := by
  rcases vin_cases n hn v with ⟨k, h1, h2, _⟩ | ⟨h1, _⟩
  · exact ⟨k, h1, h2⟩
  · unfold vis at h; rw [h1] at h; cases h
theorem vis_nI {n k : Nat} (h : k < n) (hn : n < 2 ^ 31) : vis n (nI k) = true := by
  unfold vis; rw [vin_nI (by omega), if_pos h]; rfl
/-- all of n, as a mask -/
theorem all_mask : ∀ n, n < 17 → ((1 : Int32) <<< (nI n &&& 31)) - 1 = mkn 24 (fun i => decide (i < n)) := by decide +kernel
theorem undo_mask : ∀ n, n < 17 → ∀ k, k < 17 → (mkn 24 (fun i => decide (i < n))) &&& (-((1 : Int32) <<< (nI k &&& 31))) = mkn 24 (fun i => decide (k ≤ i ∧ i < n)) := by decide +kernel


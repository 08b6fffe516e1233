theorem bc16 {k : Nat} (h : k < 65536) : bc (nI k) = nI (qcnt k.testBit 16) := by
  have e : k = 2048 * (k / 2048) + k % 2048 := by omega
  have h1 : k % 2048 < 2048 := Nat.mod_lt _ (by omega)
  have h2 : k / 2048 < 32 := by omega
  rw [e]
  generalize k % 2048 = j at h1 ⊢
  generalize k / 2048 = i at h2 ⊢
  match i, h2 with
  | 0, _ => exact bc16_0 j h1
  | 1, _ => exact bc16_1 j h1
  | 2, _ => exact bc16_2 j h1
  | 3, _ => exact bc16_3 j h1
  | 4, _ => exact bc16_4 j h1
  | 5, _ => exact bc16_5 j h1
  | 6, _ => exact bc16_6 j h1
  | 7, _ => exact bc16_7 j h1
  | 8, _ => exact bc16_8 j h1
  | 9, _ => exact bc16_9 j h1
  | 10, _ => exact bc16_10 j h1
  | 11, _ => exact bc16_11 j h1
  | 12, _ => exact bc16_12 j h1
  | 13, _ => exact bc16_13 j h1
  | 14, _ => exact bc16_14 j h1
  | 15, _ => exact bc16_15 j h1
  | 16, _ => exact bc16_16 j h1
  | 17, _ => exact bc16_17 j h1
  | 18, _ => exact bc16_18 j h1
  | 19, _ => exact bc16_19 j h1
  | 20, _ => exact bc16_20 j h1
  | 21, _ => exact bc16_21 j h1
  | 22, _ => exact bc16_22 j h1
  | 23, _ => exact bc16_23 j h1
  | 24, _ => exact bc16_24 j h1
  | 25, _ => exact bc16_25 j h1
  | 26, _ => exact bc16_26 j h1
  | 27, _ => exact bc16_27 j h1
  | 28, _ => exact bc16_28 j h1
  | 29, _ => exact bc16_29 j h1
  | 30, _ => exact bc16_30 j h1
  | 31, _ => exact bc16_31 j h1
  | i + 32, h => exact absurd h (by omega)
theorem bc_mkn16 (f : Nat → Bool) : bc (mkn 16 f) = nI (qcnt f 16) := by
  obtain ⟨k, h1, h2, h3⟩ := mkn_nat (show 16 ≤ 32 by omega) f
  rw [h2, bc16 h1]
  congr 1
  exact qcnt_congr 16 (fun i hi => by rw [h3, decide_eq_true hi]; rfl)


/-! how many of sixteen -/
theorem bc16_0 : ∀ k, k < 2048 → bc (nI (0 + k)) = nI (qcnt (0 + k).testBit 16) := by decide +kernel
theorem bc16_1 : ∀ k, k < 2048 → bc (nI (2048 + k)) = nI (qcnt (2048 + k).testBit 16) := by decide +kernel
theorem bc16_2 : ∀ k, k < 2048 → bc (nI (4096 + k)) = nI (qcnt (4096 + k).testBit 16) := by decide +kernel
theorem bc16_3 : ∀ k, k < 2048 → bc (nI (6144 + k)) = nI (qcnt (6144 + k).testBit 16) := by decide +kernel
theorem bc16_4 : ∀ k, k < 2048 → bc (nI (8192 + k)) = nI (qcnt (8192 + k).testBit 16) := by decide +kernel
theorem bc16_5 : ∀ k, k < 2048 → bc (nI (10240 + k)) = nI (qcnt (10240 + k).testBit 16) := by decide +kernel
theorem bc16_6 : ∀ k, k < 2048 → bc (nI (12288 + k)) = nI (qcnt (12288 + k).testBit 16) := by decide +kernel
theorem bc16_7 : ∀ k, k < 2048 → bc (nI (14336 + k)) = nI (qcnt (14336 + k).testBit 16) := by decide +kernel
theorem bc16_8 : ∀ k, k < 2048 → bc (nI (16384 + k)) = nI (qcnt (16384 + k).testBit 16) := by decide +kernel
theorem bc16_9 : ∀ k, k < 2048 → bc (nI (18432 + k)) = nI (qcnt (18432 + k).testBit 16) := by decide +kernel
theorem bc16_10 : ∀ k, k < 2048 → bc (nI (20480 + k)) = nI (qcnt (20480 + k).testBit 16) := by decide +kernel
theorem bc16_11 : ∀ k, k < 2048 → bc (nI (22528 + k)) = nI (qcnt (22528 + k).testBit 16) := by decide +kernel
theorem bc16_12 : ∀ k, k < 2048 → bc (nI (24576 + k)) = nI (qcnt (24576 + k).testBit 16) := by decide +kernel
theorem bc16_13 : ∀ k, k < 2048 → bc (nI (26624 + k)) = nI (qcnt (26624 + k).testBit 16) := by decide +kernel
theorem bc16_14 : ∀ k, k < 2048 → bc (nI (28672 + k)) = nI (qcnt (28672 + k).testBit 16) := by decide +kernel
theorem bc16_15 : ∀ k, k < 2048 → bc (nI (30720 + k)) = nI (qcnt (30720 + k).testBit 16) := by decide +kernel
theorem bc16_16 : ∀ k, k < 2048 → bc (nI (32768 + k)) = nI (qcnt (32768 + k).testBit 16) := by decide +kernel
theorem bc16_17 : ∀ k, k < 2048 → bc (nI (34816 + k)) = nI (qcnt (34816 + k).testBit 16) := by decide +kernel
theorem bc16_18 : ∀ k, k < 2048 → bc (nI (36864 + k)) = nI (qcnt (36864 + k).testBit 16) := by decide +kernel
theorem bc16_19 : ∀ k, k < 2048 → bc (nI (38912 + k)) = nI (qcnt (38912 + k).testBit 16) := by decide +kernel
theorem bc16_20 : ∀ k, k < 2048 → bc (nI (40960 + k)) = nI (qcnt (40960 + k).testBit 16) := by decide +kernel
theorem bc16_21 : ∀ k, k < 2048 → bc (nI (43008 + k)) = nI (qcnt (43008 + k).testBit 16) := by decide +kernel
theorem bc16_22 : ∀ k, k < 2048 → bc (nI (45056 + k)) = nI (qcnt (45056 + k).testBit 16) := by decide +kernel
theorem bc16_23 : ∀ k, k < 2048 → bc (nI (47104 + k)) = nI (qcnt (47104 + k).testBit 16) := by decide +kernel
theorem bc16_24 : ∀ k, k < 2048 → bc (nI (49152 + k)) = nI (qcnt (49152 + k).testBit 16) := by decide +kernel
theorem bc16_25 : ∀ k, k < 2048 → bc (nI (51200 + k)) = nI (qcnt (51200 + k).testBit 16) := by decide +kernel
theorem bc16_26 : ∀ k, k < 2048 → bc (nI (53248 + k)) = nI (qcnt (53248 + k).testBit 16) := by decide +kernel
theorem bc16_27 : ∀ k, k < 2048 → bc (nI (55296 + k)) = nI (qcnt (55296 + k).testBit 16) := by decide +kernel
theorem bc16_28 : ∀ k, k < 2048 → bc (nI (57344 + k)) = nI (qcnt (57344 + k).testBit 16) := by decide +kernel
theorem bc16_29 : ∀ k, k < 2048 → bc (nI (59392 + k)) = nI (qcnt (59392 + k).testBit 16) := by decide +kernel
theorem bc16_30 : ∀ k, k < 2048 → bc (nI (61440 + k)) = nI (qcnt (61440 + k).testBit 16) := by decide +kernel
theorem bc16_31 : ∀ k, k < 2048 → bc (nI (63488 + k)) = nI (qcnt (63488 + k).testBit 16) := by decide +kernel
theorem bc16 {k : Nat} (h : k < 65536) : bc (nI k) = nI (qcnt k.testBit 16) := by
  have e : k = 2048 * (k / 2048) + k % 2048 := by omega
  have h1 : k % 2048 < 2048 := Nat.mod_lt _ (by omega)
  have h2 : k / 2048 < 32 := by omega
  rw [e]
  generalize k % 2048 = j at h1 ⊢
  generalize k / 2048 = i at h2 ⊢
  match i, h2 with
  | 0, _ => exact bc16_0 j h1
  | 1, _ => exact bc16_1 j h1
  | 2, _ => exact bc16_2 j h1
  | 3, _ => exact bc16_3 j h1
  | 4, _ => exact bc16_4 j h1
  | 5, _ => exact bc16_5 j h1
  | 6, _ => exact bc16_6 j h1
  | 7, _ => exact bc16_7 j h1
  | 8, _ => exact bc16_8 j h1
  | 9, _ => exact bc16_9 j h1
  | 10, _ => exact bc16_10 j h1
  | 11, _ => exact bc16_11 j h1
  | 12, _ => exact bc16_12 j h1
  | 13, _ => exact bc16_13 j h1
  | 14, _ => exact bc16_14 j h1
  | 15, _ => exact bc16_15 j h1
  | 16, _ => exact bc16_16 j h1
  | 17, _ => exact bc16_17 j h1
  | 18, _ => exact bc16_18 j h1
  | 19, _ => exact bc16_19 j h1
  | 20, _ => exact bc16_20 j h1
  | 21, _ => exact bc16_21 j h1
  | 22, _ => exact bc16_22 j h1
  | 23, _ => exact bc16_23 j h1
  | 24, _ => exact bc16_24 j h1
  | 25, _ => exact bc16_25 j h1
  | 26, _ => exact bc16_26 j h1
  | 27, _ => exact bc16_27 j h1
  | 28, _ => exact bc16_28 j h1
  | 29, _ => exact bc16_29 j h1
  | 30, _ => exact bc16_30 j h1
  | 31, _ => exact bc16_31 j h1
theorem bc_mkn16 (f : Nat → Bool) : bc (mkn 16 f) = nI (qcnt f 16) := by
  obtain ⟨k, h1, h2, h3⟩ := mkn_nat (show 16 ≤ 32 by omega) f
  rw [h2, bc16 h1]
  congr 1
  exact qcnt_congr 16 (fun i hi => by rw [h3, decide_eq_true hi]; rfl)

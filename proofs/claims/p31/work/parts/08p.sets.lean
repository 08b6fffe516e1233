/-! sets as numbers; how many are in one; the i-th of one -/
theorem nI_bv (k : Nat) : (nI k).toBitVec = BitVec.ofNat 32 k := rfl
theorem mkn_nat {n : Nat} (hn : n ≤ 32) (f : Nat → Bool) : ∃ k, k < 2 ^ n ∧ mkn n f = nI k ∧ ∀ i, k.testBit i = (decide (i < n) && f i) := by
  refine ⟨(mkn n f).toBitVec.toNat, ?_, ?_, fun i => ?_⟩
  · refine Nat.lt_pow_two_of_testBit _ (fun i hi => ?_)
    have := bt_mkn hn f i
    unfold bt at this
    rw [BitVec.testBit_toNat, this, decide_eq_false (by omega)]; rfl
  · refine Int32.toBitVec_inj.mp ?_
    rw [nI_bv]
    simp
  · have := bt_mkn hn f i
    unfold bt at this
    rw [BitVec.testBit_toNat, this]
theorem qcnt_congr {f g : Nat → Bool} : ∀ k, (∀ i, i < k → f i = g i) → qcnt f k = qcnt g k := by
  intro k
  induction k with
  | zero => intro _; rfl
  | succ k ih => intro h; rw [qcnt, qcnt, ih (fun i hi => h i (by omega)), h k (by omega)]
theorem qcnt_more {f : Nat → Bool} {n : Nat} : ∀ m, (∀ i, n ≤ i → f i = false) → qcnt f (n + m) = qcnt f n := by
  intro m
  induction m with
  | zero => intro _; rfl
  | succ m ih => intro h; rw [← Nat.add_assoc, qcnt, ih h, h (n + m) (by omega)]; rfl
def bc (v : Int32) : Int32 := match fJ_bitCount v (fun _ _ => 0) with
  | some p => p.1
  | none => 0
theorem bitCount_eq (v : Int32) (h : gH) : fJ_bitCount v h = some (bc v, h) := rfl
theorem bc10 : ∀ k, k < 1024 → bc (nI k) = nI (qcnt k.testBit 10) := by decide +kernel
theorem bc_mkn {n : Nat} (hn : n ≤ 10) (f : Nat → Bool) : bc (mkn n f) = nI (qcnt f n) := by
  obtain ⟨k, h1, h2, h3⟩ := mkn_nat (show n ≤ 32 by omega) f
  have hk : k < 1024 := Nat.lt_of_lt_of_le h1 (Nat.pow_le_pow_right (by omega) hn)
  rw [h2, bc10 k hk]
  congr 1
  have : qcnt k.testBit (n + (10 - n)) = qcnt k.testBit n := qcnt_more _ (fun i hi => by rw [h3, decide_eq_false (by omega)]; rfl)
  rw [show n + (10 - n) = 10 by omega] at this
  rw [this]
  exact qcnt_congr n (fun i hi => by rw [h3, decide_eq_true hi]; rfl)
theorem vls_len (vs : Nat → Bool) : (vls vs).length = qcnt vs 8 := by
  have : ∀ n, ((List.range n).filter vs).length = qcnt vs n := by
    intro n
    induction n with
    | zero => rfl
    | succ n ih =>
      rw [List.range_succ, List.filter_append, List.length_append, ih, qcnt]
      cases h : vs n <;> simp [h]
  exact this 8
theorem Sp_eq {α β : Type} {o : Option α} {x : α} {f : α → Option β} {Q : β → Prop} (e : o = some x) (k : Sp (f x) Q) : Sp (o.bind f) Q := by rw [e]; exact k

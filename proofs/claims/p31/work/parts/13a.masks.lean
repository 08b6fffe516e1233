/-! the law's own picture: the domains in one number, the queue in another -/
def fN {α : Type} (n : Nat) (k : Nat → α) : α := match n with
  | 0 => k 0
  | m + 1 => k (Nat.succ m)
theorem fN_eq {α : Type} (n : Nat) (k : Nat → α) : fN n k = k n := by cases n <;> rfl
def dm (D x : Nat) : Nat := (D >>> (10 * x)) &&& 1023
def dset (D x m : Nat) : Nat := D ^^^ ((dm D x ^^^ m) <<< (10 * x))
theorem tb1023 (v : Nat) : Nat.testBit 1023 v = decide (v < 10) := Nat.testBit_two_pow_sub_one 10 v
theorem dm_tb (D x v : Nat) : (dm D x).testBit v = (decide (v < 10) && D.testBit (10 * x + v)) := by
  unfold dm
  rw [Nat.testBit_and, Nat.testBit_shiftRight, tb1023, Bool.and_comm]
theorem dm_lt (D x : Nat) : dm D x < 1024 := Nat.lt_succ_of_le Nat.and_le_right
theorem tb_hi {m v : Nat} (hm : m < 1024) (hv : 10 ≤ v) : m.testBit v = false := by
  refine Nat.testBit_lt_two_pow (Nat.lt_of_lt_of_le hm ?_)
  show 2 ^ 10 ≤ 2 ^ v
  exact Nat.pow_le_pow_right (by omega) hv
theorem dset_tb {D x m y v : Nat} (hm : m < 1024) (hv : v < 10) : (dset D x m).testBit (10 * y + v) = if y = x then m.testBit v else D.testBit (10 * y + v) := by
  unfold dset
  rw [Nat.testBit_xor, Nat.testBit_shiftLeft]
  by_cases h : y = x
  · subst h
    rw [if_pos rfl, decide_eq_true (by omega), Bool.true_and, Nat.add_sub_cancel_left, Nat.testBit_xor, dm_tb, decide_eq_true hv, Bool.true_and]
    cases D.testBit (10 * y + v) <;> cases m.testBit v <;> rfl
  · rw [if_neg h]
    by_cases g : 10 * x ≤ 10 * y + v
    · have e : 10 ≤ 10 * y + v - 10 * x := by omega
      rw [Nat.testBit_xor, tb_hi (dm_lt D x) e, tb_hi hm e]
      simp
    · rw [decide_eq_false (by omega)]
      simp
theorem nz10 {z : Nat} (hz : z < 1024) : z = 0 ↔ ∀ v, v < 10 → z.testBit v = false := by
  constructor
  · intro h v _; rw [h]; exact Nat.zero_testBit v
  · intro h
    refine Nat.eq_of_testBit_eq (fun v => ?_)
    rw [Nat.zero_testBit]
    by_cases hv : v < 10
    · exact h v hv
    · exact tb_hi hz (by omega)
theorem eq10 {a b : Nat} (ha : a < 1024) (hb : b < 1024) : a = b ↔ ∀ v, v < 10 → a.testBit v = b.testBit v := by
  constructor
  · intro h v _; rw [h]
  · intro h
    refine Nat.eq_of_testBit_eq (fun v => ?_)
    by_cases hv : v < 10
    · exact h v hv
    · rw [tb_hi ha (by omega), tb_hi hb (by omega)]
/-! the least and the greatest of a set, and what they press out -/
def cmn (m : Nat) : Nat := (m - (m &&& (m - 1))).log2
def cLo (m k : Nat) : Nat := 2 ^ (m.log2 - k) - 1
def cHi (m k : Nat) : Nat := if m = 0 then 0 else 1024 - 2 ^ (cmn m + k + 1)
def cNLo (m k : Nat) : Nat := if m = 0 then 0 else 1024 - 2 ^ (cmn m - k)
def cNHi (m k : Nat) : Nat := if m = 0 then 0 else 2 ^ (m.log2 + k + 1) - 1
set_option maxRecDepth 100000 in
theorem log_all : ∀ m, m < 1024 → (m ≠ 0 → m.testBit m.log2 = true ∧ m.testBit (cmn m) = true) ∧ m.log2 < 10 ∧ cmn m < 10 ∧ ∀ y, y < 10 → m.testBit y = true → y ≤ m.log2 ∧ cmn m ≤ y := by decide +kernel
theorem pw_all : ∀ a, a < 14 → ∀ v, v < 10 → (1024 - 2 ^ a).testBit v = decide (a ≤ v) := by decide +kernel
theorem tb_Lo {m v : Nat} (k : Nat) (hm : m < 1024) (hv : v < 10) : (cLo m k).testBit v = qany (fun y => m.testBit y && decide (v + k < y)) := by
  obtain ⟨l1, l2, l3, l4⟩ := log_all m hm
  unfold cLo
  rw [Nat.testBit_two_pow_sub_one, Bool.eq_iff_iff, decide_eq_true_eq, qany_iff]
  constructor
  · intro h
    by_cases z : m = 0
    · subst z
      rw [show Nat.log2 0 = 0 from rfl] at h
      omega
    · exact ⟨m.log2, l2, by rw [(l1 z).1, decide_eq_true (by omega)]; rfl⟩
  · rintro ⟨y, hy, h⟩
    rw [Bool.and_eq_true, decide_eq_true_eq] at h
    have := (l4 y hy h.1).1
    omega
theorem tb_NLo {m v k : Nat} (hk : k < 3) (hm : m < 1024) (hv : v < 10) : (cNLo m k).testBit v = qany (fun y => m.testBit y && !decide (v + k < y)) := by
  obtain ⟨l1, l2, l3, l4⟩ := log_all m hm
  unfold cNLo
  by_cases z : m = 0
  · rw [if_pos z, z, Nat.zero_testBit]
    symm
    rw [qany_f]; intro y _; rw [Nat.zero_testBit]; rfl
  · rw [if_neg z, pw_all _ (by omega) v hv, Bool.eq_iff_iff, decide_eq_true_eq, qany_iff]
    constructor
    · intro h
      exact ⟨cmn m, l3, by rw [(l1 z).2, decide_eq_false (by omega)]; rfl⟩
    · rintro ⟨y, hy, h⟩
      rw [Bool.and_eq_true, Bool.not_eq_true', decide_eq_false_iff_not] at h
      have := (l4 y hy h.1).2
      omega
theorem tb_Hi {m y k : Nat} (hk : k < 3) (hm : m < 1024) (hy : y < 10) : (cHi m k).testBit y = qany (fun v => m.testBit v && decide (v + k < y)) := by
  obtain ⟨l1, l2, l3, l4⟩ := log_all m hm
  unfold cHi
  by_cases z : m = 0
  · rw [if_pos z, z, Nat.zero_testBit]
    symm
    rw [qany_f]; intro y _; rw [Nat.zero_testBit]; rfl
  · rw [if_neg z, pw_all _ (by omega) y hy, Bool.eq_iff_iff, decide_eq_true_eq, qany_iff]
    constructor
    · intro h
      exact ⟨cmn m, l3, by rw [(l1 z).2, decide_eq_true (by omega)]; rfl⟩
    · rintro ⟨v, hv, h⟩
      rw [Bool.and_eq_true, decide_eq_true_eq] at h
      have := (l4 v hv h.1).2
      omega
theorem tb_NHi {m y k : Nat} (hm : m < 1024) (hy : y < 10) : (cNHi m k).testBit y = qany (fun v => m.testBit v && !decide (v + k < y)) := by
  obtain ⟨l1, l2, l3, l4⟩ := log_all m hm
  unfold cNHi
  by_cases z : m = 0
  · rw [if_pos z, z, Nat.zero_testBit]
    symm
    rw [qany_f]; intro y _; rw [Nat.zero_testBit]; rfl
  · rw [if_neg z, Nat.testBit_two_pow_sub_one, Bool.eq_iff_iff, decide_eq_true_eq, qany_iff]
    constructor
    · intro h
      exact ⟨m.log2, l2, by rw [(l1 z).1, decide_eq_false (by omega)]; rfl⟩
    · rintro ⟨v, hv, h⟩
      rw [Bool.and_eq_true, Bool.not_eq_true', decide_eq_false_iff_not] at h
      have := (l4 v hv h.1).1
      omega
/-! what a rule of two or three variables leaves -/
theorem slt2 {vs : Nat → Bool} {a b : Nat} (h : vls vs = [a, b]) : slt vs 0 = 8 ∧ slt vs 1 = a ∧ slt vs 2 = b := by
  unfold slt; rw [h]; exact ⟨rfl, rfl, rfl⟩
theorem slt3 {vs : Nat → Bool} {a b c : Nat} (h : vls vs = [a, b, c]) : slt vs 0 = a ∧ slt vs 1 = b ∧ slt vs 2 = c := by
  unfold slt; rw [h]; exact ⟨rfl, rfl, rfl⟩
theorem qany_one8 (g : Nat → Bool) : qany (fun x => one8 x && g x) = g 0 := by
  rw [Bool.eq_iff_iff, qany_iff]
  constructor
  · rintro ⟨v, _, h⟩
    rw [Bool.and_eq_true] at h
    have e : v = 0 := of_decide_eq_true h.1
    rw [← e]; exact h.2
  · intro h
    exact ⟨0, by omega, by rw [h]; rfl⟩
theorem dsl_lt {D : Nat → Nat → Bool} {a : Nat} (h : a < 8) : dsl D a = D a := by unfold dsl; rw [if_neg (by omega)]
theorem kpS2 {vs : Nat → Bool} {a b : Nat} (T : Nat → Nat → Nat → Bool) (D : Nat → Nat → Bool) (v : Nat) (h : vls vs = [a, b]) (ha : a < 8) (hb : b < 8) (hab : a ≠ b) : kpS vs T D a v = (D a v && qany (fun z => T v z 0 && D b z)) ∧ kpS vs T D b v = (D b v && qany (fun y => D a y && T y v 0)) := by
  obtain ⟨s0, s1, s2⟩ := slt2 h
  unfold kpS
  rw [s0, s1, s2, h, dsl_lt ha, dsl_lt hb, if_neg hab, if_pos rfl, if_pos rfl, show dsl D 8 = one8 from if_pos rfl]
  refine ⟨?_, ?_⟩
  · unfold sA1
    rw [qany_one8]
    rfl
  · unfold sA2
    rw [qany_one8]
    rfl
theorem kpS3 {vs : Nat → Bool} {a b c : Nat} (T : Nat → Nat → Nat → Bool) (D : Nat → Nat → Bool) (v : Nat) (h : vls vs = [a, b, c]) (ha : a < 8) (hb : b < 8) (hc : c < 8) (hab : a ≠ b) (hac : a ≠ c) (hbc : b ≠ c) : kpS vs T D a v = (D a v && qany (fun y => D b y && qany (fun z => T v y z && D c z))) ∧ kpS vs T D b v = (D b v && qany (fun x => D a x && qany (fun z => T x v z && D c z))) ∧ kpS vs T D c v = (D c v && qany (fun x => D a x && qany (fun y => D b y && T x y v))) := by
  obtain ⟨s0, s1, s2⟩ := slt3 h
  unfold kpS
  rw [s0, s1, s2, h, dsl_lt ha, dsl_lt hb, dsl_lt hc, if_neg hac, if_neg hab, if_neg hbc, if_pos rfl, if_pos rfl]
  exact ⟨rfl, rfl, rfl⟩

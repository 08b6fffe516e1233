/-! bits of ints: bt x i, and the mask mkn n f of a predicate f on the places below n -/
def bt (x : Int32) (i : Nat) : Bool := x.toBitVec.getLsbD i
theorem bt_hi {x : Int32} {i : Nat} (h : 32 ≤ i) : bt x i = false := BitVec.getLsbD_of_ge _ _ h
theorem bt_ext {x y : Int32} (h : ∀ i, i < 32 → bt x i = bt y i) : x = y := Int32.toBitVec_inj.mp (BitVec.eq_of_getLsbD_eq h)
theorem bt_and (x y : Int32) (i : Nat) : bt (x &&& y) i = (bt x i && bt y i) := by
  unfold bt; rw [Int32.toBitVec_and, BitVec.getLsbD_and]
theorem bt_or (x y : Int32) (i : Nat) : bt (x ||| y) i = (bt x i || bt y i) := by
  unfold bt; rw [Int32.toBitVec_or, BitVec.getLsbD_or]
theorem bt_xor (x y : Int32) (i : Nat) : bt (x ^^^ y) i = (bt x i ^^ bt y i) := by
  unfold bt; rw [Int32.toBitVec_xor, BitVec.getLsbD_xor]
theorem bt_0 (i : Nat) : bt 0 i = false := by
  show (0#32).getLsbD i = false
  exact BitVec.getLsbD_zero
theorem bt_m1 {i : Nat} (h : i < 32) : bt (-1) i = true := by
  show (BitVec.ofNat 32 4294967295).getLsbD i = true
  revert i; decide +kernel
theorem bt_not (x : Int32) {i : Nat} (h : i < 32) : bt (x ^^^ (-1)) i = !bt x i := by
  rw [bt_xor, bt_m1 h]; cases bt x i <;> rfl
theorem bt_1 (i : Nat) : bt 1 i = decide (i = 0) := by
  show (1#32).getLsbD i = _
  rw [BitVec.getLsbD_one]; by_cases h : i = 0 <;> simp [h]
theorem g31 : ∀ v, v < 32 → ((nI v &&& 31).toBitVec.smod 32).toNat = v := by decide +kernel
theorem g32 : ∀ v, v < 32 → ∀ i, i < 32 → bt (1 <<< (nI v &&& 31)) i = decide (i = v) := by decide +kernel
theorem bt_shl1 {v : Nat} (h : v < 32) (i : Nat) : bt (1 <<< (nI v &&& 31)) i = decide (i = v) := by
  by_cases hi : i < 32
  · exact g32 v h i hi
  · rw [bt_hi (by omega)]; symm; exact decide_eq_false (by omega)
theorem bt_shr (x : Int32) {v : Nat} (h : v < 32) {i : Nat} (hi : i < 32) : bt (x >>> (nI v &&& 31)) i = if v + i < 32 then bt x (v + i) else bt x 31 := by
  unfold bt
  rw [Int32.toBitVec_shiftRight, BitVec.getLsbD_sshiftRight', g31 v h]
  have e : (!decide (32 ≤ i)) = true := by simp; omega
  rw [e, Bool.true_and, BitVec.msb_eq_getLsbD_last]
theorem bt_test (x : Int32) {v : Nat} (h : v < 32) : (x >>> (nI v &&& 31)) &&& 1 = if bt x v then 1 else 0 := by
  refine bt_ext fun i hi => ?_
  rw [bt_and, bt_1, bt_shr x h hi]
  by_cases h0 : i = 0
  · subst h0
    rw [if_pos (by omega), Nat.add_zero]
    cases bt x v <;> simp [bt_1, bt_0]
  · have e : decide (i = 0) = false := decide_eq_false h0
    rw [e, Bool.and_false]
    cases bt x v <;> simp [bt_1, bt_0, h0]
/-- the mask of f on the places below n -/
def mkn : Nat → (Nat → Bool) → Int32
  | 0, _ => 0
  | n + 1, f => mkn n f ||| (if f n then 1 <<< (nI n &&& 31) else 0)
theorem bt_mkn {n : Nat} (hn : n ≤ 32) (f : Nat → Bool) (i : Nat) : bt (mkn n f) i = (decide (i < n) && f i) := by
  induction n with
  | zero => simp [mkn, bt_0]
  | succ n ih =>
    rw [mkn, bt_or, ih (by omega)]
    have e : bt (if f n = true then (1 : Int32) <<< (nI n &&& 31) else 0) i = (f n && decide (i = n)) := by
      cases f n
      · simp [bt_0]
      · rw [if_pos rfl, bt_shl1 (by omega)]; simp
    rw [e]
    by_cases h : i = n
    · subst h; simp
    · have : decide (i < n + 1) = decide (i < n) := by apply decide_eq_decide.mpr; omega
      simp [h, this]
theorem mkn_ext {n : Nat} (hn : n ≤ 32) {x : Int32} {f : Nat → Bool} (h : ∀ i, i < 32 → bt x i = (decide (i < n) && f i)) : x = mkn n f := bt_ext fun i hi => by rw [h i hi, bt_mkn hn]
theorem mkn_congr {n : Nat} {f g : Nat → Bool} (h : ∀ i, i < n → f i = g i) : mkn n f = mkn n g := by
  induction n with
  | zero => rfl
  | succ n ih => rw [mkn, mkn, ih (fun i hi => h i (by omega)), h n (by omega)]
theorem mkn_inj {n : Nat} (hn : n ≤ 32) {f g : Nat → Bool} (h : mkn n f = mkn n g) : ∀ i, i < n → f i = g i := fun i hi => by
  have e := bt_mkn hn f i
  rw [h, bt_mkn hn] at e
  simpa [hi] using e.symm
theorem mkn_and {n : Nat} (hn : n ≤ 32) (f g : Nat → Bool) : mkn n f &&& mkn n g = mkn n (fun i => f i && g i) := mkn_ext hn fun i _ => by
  rw [bt_and, bt_mkn hn, bt_mkn hn]; cases decide (i < n) <;> simp
theorem mkn_or {n : Nat} (hn : n ≤ 32) (f g : Nat → Bool) : mkn n f ||| mkn n g = mkn n (fun i => f i || g i) := mkn_ext hn fun i _ => by
  rw [bt_or, bt_mkn hn, bt_mkn hn]; cases decide (i < n) <;> simp
theorem mkn_andx {n : Nat} (hn : n ≤ 32) (f : Nat → Bool) (x : Int32) : mkn n f &&& x = mkn n (fun i => f i && bt x i) := mkn_ext hn fun i _ => by
  rw [bt_and, bt_mkn hn]; cases decide (i < n) <;> simp
theorem mkn_dif {n : Nat} (hn : n ≤ 32) (f g : Nat → Bool) : mkn n f &&& (mkn n g ^^^ (-1)) = mkn n (fun i => f i && !g i) := by
  rw [mkn_andx hn]
  refine mkn_congr fun i hi => ?_
  rw [bt_not _ (by omega), bt_mkn hn]; simp [hi]
theorem mkn_del {n v : Nat} (hn : n ≤ 32) (hv : v < 32) (f : Nat → Bool) : mkn n f &&& ((1 <<< (nI v &&& 31)) ^^^ (-1)) = mkn n (fun i => f i && !decide (i = v)) := by
  rw [mkn_andx hn]
  refine mkn_congr fun i hi => ?_
  rw [bt_not _ (by omega), bt_shl1 hv]
theorem mkn_one {n v : Nat} (hn : n ≤ 32) (hv : v < n) : (1 : Int32) <<< (nI v &&& 31) = mkn n (fun i => decide (i = v)) := mkn_ext hn fun i _ => by
  rw [bt_shl1 (by omega)]
  by_cases h : i = v
  · subst h; simp [hv]
  · simp [h]
theorem mkn_ins {n v : Nat} (hn : n ≤ 32) (hv : v < n) (f : Nat → Bool) : mkn n f ||| (1 <<< (nI v &&& 31)) = mkn n (fun i => f i || decide (i = v)) := by
  rw [mkn_one hn hv, mkn_or hn]
theorem mkn_test {n v : Nat} (hn : n ≤ 32) (hv : v < n) (f : Nat → Bool) : (mkn n f >>> (nI v &&& 31)) &&& 1 = if f v then 1 else 0 := by
  rw [bt_test _ (by omega), bt_mkn hn]; simp [hv]
theorem mkn_zero {n : Nat} (hn : n ≤ 32) (f : Nat → Bool) : mkn n f = 0 ↔ ∀ i, i < n → f i = false := by
  constructor
  · intro h i hi
    have e := bt_mkn hn f i
    rw [h, bt_0] at e
    simpa [hi] using e.symm
  · intro h
    refine bt_ext fun i _ => ?_
    rw [bt_mkn hn, bt_0]
    by_cases hi : i < n
    · simp [h i hi]
    · simp [hi]
theorem mkn_0 (n : Nat) (hn : n ≤ 32) : (0 : Int32) = mkn n (fun _ => false) := mkn_ext hn fun i _ => by rw [bt_0]; simp
theorem mkn_of {n : Nat} (hn : n ≤ 32) {x : Int32} (h : ∀ i, i < 32 → n ≤ i → bt x i = false) : x = mkn n (bt x) := mkn_ext hn fun i hi => by
  by_cases h1 : i < n
  · simp [h1]
  · simp [h1, h i hi (by omega)]

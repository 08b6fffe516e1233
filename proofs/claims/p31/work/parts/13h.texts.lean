/-! the law's texts, read -/
def tpf : (Nat → Nat) → Nat → List Nat → Nat → Nat
  | f, _, [] => f
  | f, t, b :: l => tpf (updn f t b) (t + 1) l
def Ts0 : Nat → Nat → Nat → Bool := fun _ _ _ => false
/-- the text of a step of the chain, of the bound test -/
def tx1 (j k : Nat) : List Nat := [98 + j, 62, 97 + j, 43, 47 + k]
def tx2 (k : Nat) : List Nat := [104, 58, 98, 62, 97, 43, 48 + k]
def tpc (k : Nat) : Nat → Nat → Nat
  | 0 => fun _ => 0
  | j + 1 => tpf (tpc k j) 0 (tx1 j k)
def rd1 (k j : Nat) : rdR := qrd (5, tpc k (j + 1))
def rd2 (k n : Nat) : rdR := qrd (7, tpf (tpc k (n - 1)) 0 (tx2 k))
def a10 (p : Nat → Bool) : Bool := (List.range 10).all p
def ok1 (k j : Nat) : Bool := (rd1 k j).1 && (decide ((rd1 k j).2.2.1 = 0) && ((List.range 8).all (fun x => (rd1 k j).2.2.2.1 x == (decide (x = j) || decide (x = j + 1))) && a10 (fun y => a10 (fun z => tabW (rd1 k j).2.2.2.2 (rd1 k j).2.2.2.1 Ts0 y z 0 == decide (y + (k - 1) < z)))))
def ok2 (k n : Nat) : Bool := (rd2 k n).1 && (decide ((rd2 k n).2.2.1 = 1) && ((List.range 8).all (fun x => (rd2 k n).2.2.2.1 x == (decide (x = 0) || (decide (x = 1) || decide (x = 7)))) && a10 (fun x => a10 (fun y => a10 (fun z => tabW (rd2 k n).2.2.2.2 (rd2 k n).2.2.2.1 Ts0 x y z == (if z = 1 then decide (x + k < y) else if z = 0 then !decide (x + k < y) else false))))))
theorem ok1_all : ∀ k, k < 3 → 1 ≤ k → ∀ j, j < 5 → ok1 k j = true := by decide +kernel
theorem ok2_all : ∀ k, k < 3 → 1 ≤ k → ∀ n, n < 7 → 3 ≤ n → ok2 k n = true := by decide +kernel

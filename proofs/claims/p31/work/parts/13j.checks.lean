/-! what the law asks, reckoned -/
def ctells (n : Nat) : Nat → Nat → Nat → Nat → Nat × Nat
  | 0, _, D, Q => (D, Q)
  | m + 1, x, D, Q => match cst n D Q x 1 with
    | (D1, Q1) => fN D1 fun D1 => fN Q1 fun Q1 => ctells n m (x + 1) D1 Q1
def ctok (n : Nat) : Nat → Nat → Nat → Nat → Bool
  | 0, _, D, _ => !decide (D = 0)
  | m + 1, x, D, Q => !decide (D = 0) && (decide (cnf (fun v => fD D x v && !Nat.testBit 1 v) 10 0 = 9) && match cst n D Q x 1 with
    | (D1, Q1) => fN D1 fun D1 => fN Q1 fun Q1 => ctok n m (x + 1) D1 Q1)
def dsB (n x : Nat) : List (Nat × Nat) := (List.range' n (x - n)).map (fun i => (i, 1))
def pBr (n : Nat) : Nat × Nat := ctells n (7 - n) n cfull (2 ^ n - 1)
def pCr (n k : Nat) : Nat × Nat := match pBr n with
  | (D, Q) => fN D fun D => fN Q fun Q => citer n k 2024 D Q
/-- a set from lo to hi, as the law writes it -/
def lset (lo hi : Int32) : Int32 := (((1 : Int32) <<< ((hi + 1) &&& 31)) - 1) &&& ((((1 : Int32) <<< (lo &&& 31)) - 1) ^^^ (-1))
def okA0 (n : Nat) : Bool := ctok n (7 - n) n cfull (2 ^ n - 1)
def okA1 (n k : Nat) : Bool := match pCr n k with
  | (D, Q) => fN D fun D => decide (D = 0) && decide (cwhy n k (dsB n 7) 8 0 = 0)
def okD (n k D x : Nat) : Bool := decide (lset (nI (x * k)) (nI (9 - (n - 1 - x) * k)) = nI (dm D x)) && ((decide (x * k = 0) || !D.testBit (10 * x)) && (decide (crch n k D 0 x 0 10 0 = nI (x * k)) && decide (crch n k D 0 x 1 10 0 = nI (9 - (n - 1 - x) * k))))
/-- the digits of a find, from the last but one to the first -/
def okG (n k : Nat) : Nat → Nat → Bool
  | 0, _ => true
  | m + 1, left => decide (left % 10 = if m < n then m * k else 0) && okG n k m (left / 10)
def okA2 (n k : Nat) : Bool := match pCr n k with
  | (D, Q) => fN D fun D => !decide (D = 0) && (decide (Q = 0) && ((List.range n).all (okD n k D) && (decide (dm D 7 = 3) && (decide (cwhy n k (dsB n 7) 0 9 = 0) && (match csr n k 0 0 100 false 9 D 0 0 with
    | (c, _, _, D3) => fN (cdg D3) fun F => decide (c = 1) && (decide (F < 2147483648) && (decide (F % 10 = 0) && okG n k 7 (F / 10)))) && (match csr n k 1 0 100 false 9 D 0 0 with
    | (c, _, _, D3) => decide (c = 1) && decide (cdg D3 < 2147483648))))))
theorem okA0_all : ∀ n, n < 7 → 3 ≤ n → okA0 n = true := by decide +kernel
theorem okA1_62 : okA1 6 2 = true := by decide +kernel
theorem okA2_all : ∀ n, n < 7 → 3 ≤ n → ∀ k, k < 3 → 1 ≤ k → (n - 1) * k ≤ 9 → okA2 n k = true := by decide +kernel

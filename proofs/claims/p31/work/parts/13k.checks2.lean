/-! what the law asks behind the level, reckoned -/
/-- behind the first decision -/
def pD1 (n k up : Nat) : Nat × Nat := match pCr n k with
  | (D, _) => fN D fun D => match cst n D 0 0 (2 ^ up) with
    | (D1, Q1) => fN D1 fun D1 => fN Q1 fun Q1 => (D1, Q1)
def pD2 (n k up : Nat) : Nat × Nat := match pD1 n k up with
  | (D, Q) => fN D fun D => fN Q fun Q => citer n k 2024 D Q
def pD3 (n k up : Nat) : Nat × Nat := match pD2 n k up with
  | (D, Q) => fN D fun D => fN Q fun Q => cst n D Q (n - 1) (2 ^ (up + (n - 1) * k + 1) - 1)
def pD4 (n k up : Nat) : Nat × Nat := match pD3 n k up with
  | (D, Q) => fN D fun D => fN Q fun Q => citer n k 2024 D Q
def pD5 (n k up : Nat) : Nat × Nat := match pD4 n k up with
  | (D, Q) => fN D fun D => fN Q fun Q => cst n D Q (n - 1) (2 ^ (up + (n - 1) * k) - 1)
def ds1 (n up : Nat) : List (Nat × Nat) := dsB n 7 ++ [(0, 2 ^ up)]
def ds2 (n k up : Nat) : List (Nat × Nat) := ds1 n up ++ [(n - 1, 2 ^ (up + (n - 1) * k + 1) - 1)]
def ds3 (n k up : Nat) : List (Nat × Nat) := ds2 n k up ++ [(n - 1, 2 ^ (up + (n - 1) * k) - 1)]
/-- the places of the least bits, as the JDK reckons them, are told elsewhere: here the sets -/
def okB1 (n k up : Nat) : Bool := fN (pD1 n k up).1 (fun D => !decide (D = 0)) && (fN (pD2 n k up).1 (fun D => !decide (D = 0) && (List.range n).all (fun x => decide (cmn (dm D x) = up + x * k))) && (decide (up = 0) || decide (cwhy n k (ds1 n up) (n - 1) ((n - 1) * k) = 2 ^ (7 - n))))
def okB2 (n k up : Nat) : Bool := fN (pD3 n k up).1 (fun D => !decide (D = 0)) && (match pD4 n k up with
  | (D, Q) => fN D fun D => fN Q fun Q => !decide (D = 0) && ((List.range n).all (fun x => decide (dm D x = 2 ^ (up + x * k))) && (decide (dm D 7 = 1) && (decide (qcnt (stl (fD D)) 8 = 8) && ((match csr n k 0 0 300 true 9 D Q 0 with
    | (c, _, f, _) => decide (c = 0) && decide (f = 1)) && (match csr n k 2 2 100 false 9 D Q 0 with
    | (c, t, _, _) => decide (c = 1) && decide (t = 0)))))))
def okB3 (n k up : Nat) : Bool := decide ((pD5 n k up).1 = 0) && fN (cwhy n k (ds3 n k up) 8 0) (fun a => decide (a < 99999))
def okB4 (n k : Nat) : Bool := match pCr n k with
  | (D, _) => fN D fun D => decide (crch n k D 0 0 1 10 0 = nI (9 - (n - 1) * k))
def okU (n k : Nat) (p : Nat → Bool) : Bool := (List.range (10 - (n - 1) * k)).all p
theorem okB1_all : ∀ n, n < 7 → 3 ≤ n → ∀ k, k < 3 → 1 ≤ k → okU n k (okB1 n k) = true := by decide +kernel
theorem okB2_all : ∀ n, n < 7 → 3 ≤ n → ∀ k, k < 3 → 1 ≤ k → okU n k (okB2 n k) = true := by decide +kernel
theorem okB3_all : ∀ n, n < 7 → 3 ≤ n → ∀ k, k < 3 → 1 ≤ k → okU n k (okB3 n k) = true := by decide +kernel
theorem okB4_all : ∀ n, n < 7 → 3 ≤ n → ∀ k, k < 3 → 1 ≤ k → (n - 1) * k ≤ 9 → okB4 n k = true := by decide +kernel

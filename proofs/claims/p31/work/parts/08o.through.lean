def n1 (b : Bool) : Nat := if b then 1 else 0

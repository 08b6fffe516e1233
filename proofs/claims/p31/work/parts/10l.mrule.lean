/-! the reference takes a rule -/
def rel (c x y z : Nat) : Bool := (decide (0 < c) || decide (x = 0)) && ((decide (1 < c) || decide (y = 0)) && (decide (2 < c) || decide (z = 0)))
/-- values, one a slot -/
def envW (V : Nat → Bool) (x y z : Nat) : Nat → Int32 := fun v => if slt V 0 = v then nI x else if slt V 1 = v then nI y else nI z
def sl3 (c x y z : Nat) : Nat × Nat × Nat := if c = 3 then (x, y, z) else if c = 2 then (0, x, y) else if c = 1 then (0, 0, x) else (0, 0, 0)
def tabW (f : (Nat → Int32) → Bool) (V : Nat → Bool) (Ts : Nat → Nat → Nat → Bool) (x y z : Nat) : Bool := if rel (vls V).length x y z = true then f (envW V (sl3 (vls V).length x y z).1 (sl3 (vls V).length x y z).2.1 (sl3 (vls V).length x y z).2.2) else Ts x y z
section
variable {T : qTp} {n : Nat} {r : rdR} {h0 : gH}
theorem oI_some (u : Nat) : oI (some u) = nI u := rfl
end

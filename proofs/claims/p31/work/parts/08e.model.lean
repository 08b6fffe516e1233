def qemp : Nat → Bool := fun _ => false

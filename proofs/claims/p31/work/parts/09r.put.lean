theorem b2i_ne (b : Bool) (h : b = true) : ¬ b2i b = 0 := by rw [h]; decide

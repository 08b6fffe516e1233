theorem gbo_b (b : Bool) : gbo (b2i b) = true := by cases b <;> rfl
/-- a thought: from the start, with some decisions, without a rule or with all, to its end -/
def qthink (E : qE) (b : Option Nat) (dec : Nat → Nat × Int32) (mk : Nat → Bool) (d : Nat) : qP := qiter (Ebt E b) 2024 (qst (Ebt E b) dec mk d)

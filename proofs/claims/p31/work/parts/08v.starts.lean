/-- the rules of the texts alone, all or but one -/
def Ebt (E : qE) (b : Option Nat) : qE := (En E, 0, Ev E, ET E, Ep E, Er E, match b with
  | none => fun _ => true
  | some b => fun r => !decide (r = b))
def NE (P : qP) : Prop := P.2.2.1 = false → ∀ x, x < 8 → qany (P.1 x) = true
theorem qnw_NE {E : qE} {x : Nat} {s rs : Int32} {P : qP} (hI : NE P) (hf : P.2.2.1 = false) : NE (qnw E x s rs P) := by
  have hne := hI hf
  intro h y hy
  unfold qnw at h ⊢
  dsimp only at h ⊢
  by_cases e : y = x
  · subst e; rw [hf] at h; simpa using h
  · rw [qany_congr (g := P.1 y) (fun v _ => by unfold qnar; rw [if_neg e])]; exact hne y hy
theorem bt_sub {E : qE} {b : Option Nat} {r : Nat} (h : Eact (Ebt E b) r = true) : Eact (Ebt E none) r = true ∧ b ≠ some r := by
  unfold Eact Ebt at h ⊢
  simp only [Bool.and_eq_true] at h ⊢
  refine ⟨⟨h.1, rfl⟩, fun e => ?_⟩
  subst e
  have := h.2
  unfold Eac at this
  simp at this

theorem vls_nodup (vs : Nat → Bool) : (vls vs).Nodup := by unfold vls; exact List.Pairwise.filter _ List.nodup_range
/-- all rules count -/
def Eall (E : qE) : Prop := ∀ r, Eac E r = true

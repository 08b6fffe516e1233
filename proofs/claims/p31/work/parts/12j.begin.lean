/-! where the law begins -/
def fsh : Nat → Int32 := fun k => if k = 1 then -1 else 0
def hini (f1 f2 f3 f4 fm : Nat → Int32) : gH := fun o => if o = 18 then f1 else if o = 29 then f2 else if o = 34 then f3 else if o = 45 then f4 else if o = 66 then fm else if o = 56 then fsh else if o = 58 then fsh else if o = 60 then fsh else if o = 62 then fsh else fun _ => 0
theorem hini_z (f1 f2 f3 f4 fm : Nat → Int32) (o : Nat) (ho : o ≠ 18 ∧ o ≠ 29 ∧ o ≠ 34 ∧ o ≠ 45 ∧ o ≠ 66 ∧ o ≠ 56 ∧ o ≠ 58 ∧ o ≠ 60 ∧ o ≠ 62) (k : Nat) : hini f1 f2 f3 f4 fm o k = 0 := by
  obtain ⟨a1, a2, a3, a4, a5, a6, a7, a8, a9⟩ := ho
  unfold hini
  rw [if_neg a1, if_neg a2, if_neg a3, if_neg a4, if_neg a5, if_neg a6, if_neg a7, if_neg a8, if_neg a9]
def S00 : qW := ((0, fun _ _ => false, fun _ _ _ _ => false, fun _ => 0), ((fun _ _ => true, fun _ => false, false, []), (0, fun _ => (0, 0)), (0, fun _ => 0, fun _ => 0, fun _ => 0), 0), none, (0, fun _ => 0), fun _ => (-1, 0, fun _ => 0))
theorem mm1023 : (1023 : Int32) = mkn 10 (fun _ => true) := by decide +kernel
theorem m24z : (0 : Int32) = mkn 24 (fun _ => false) := by decide +kernel
theorem m24b : (0 : Int32) = mkn 24 (bt 0) := by decide +kernel
theorem Eact0 : Eact (Et S00.1) = fun _ => false := funext fun r => by
  unfold Eact qact
  have e1 : decide (0 ≤ r ∧ r < En (Et S00.1)) = false := decide_eq_false (fun z => Nat.not_lt_zero _ z.2)
  have e2 : decide (16 ≤ r ∧ r < 16 + El (Et S00.1) ∧ 0 ≤ En (Et S00.1) + (r - 16)) = false := decide_eq_false (fun z => by
    have h2 : r < 16 + 0 := z.2.1
    omega)
  rw [e1, e2]; rfl
theorem TW0 : TW (fun _ _ => true) [] := ⟨fun a h => absurd h List.not_mem_nil, List.nodup_nil, fun x _ v _ => ⟨fun z => by (cases z), fun z => absurd z List.not_mem_nil⟩⟩
theorem W00 : WI S00 := by
  refine ⟨by decide, ⟨fun vs T kd => ⟨fun _ x _ => ?_, fun z => by (cases z), fun r _ z => by (cases z)⟩, TW0, by decide, fun i hi => absurd hi (Nat.not_lt_zero _), fun i j _ hj => absurd hj (Nat.not_lt_zero _)⟩, by decide, fun k z => by (cases z), by decide, fun i hi => absurd hi (Nat.not_lt_zero _), fun i _ => ⟨Nat.zero_le _, Or.inl ⟨rfl, rfl⟩⟩⟩
  show qany (fun _ => true) = true
  decide

/-! rule, on the reference's side -/
def updg {α : Type} (f : Nat → α) (n : Nat) (v : α) : Nat → α := fun i => if i = n then v else f i
theorem updg_n {α : Type} (f : Nat → α) (n : Nat) (v : α) : updg f n v n = v := if_pos rfl
theorem updg_o {α : Type} (f : Nat → α) {n i : Nat} (v : α) (h : i ≠ n) : updg f n v i = f i := if_neg h
def Rnew (R : qR) (r : rdR) (Ts : Nat → Nat → Nat → Bool) : qR := (R.1 + 1, updg R.2.1 R.1 r.2.2.2.1, updg R.2.2.1 R.1 (tabW r.2.2.2.2 r.2.2.2.1 Ts), updg R.2.2.2 R.1 r.2.2.1)
def Knew (K : qK) (n : Nat) : qK := ((K.1.1, (fun i => K.1.2.1 i || decide (i = n)), K.1.2.2), K.2)
def s_rule (S : qW) (Ts : Nat → Nat → Nat → Bool) : Int32 × qW := if S.1.1 = 16 then (-4, S) else if S.2.1.1.2.2.1 = true then (-3, S) else if (qrd S.2.2.2.1).1 = true then (nI S.1.1, (Rnew S.1 (qrd S.2.2.2.1) Ts, Knew S.2.1 S.1.1, S.2.2.1, (0, S.2.2.2.1.2), S.2.2.2.2)) else (-100 - nI (qrd S.2.2.2.1).2.1, (S.1, S.2.1, S.2.2.1, (0, S.2.2.2.1.2), S.2.2.2.2))
section
variable {S : qW} {Ts : Nat → Nat → Nat → Bool}
theorem s_rule1 (h : S.1.1 = 16) : s_rule S Ts = (-4, S) := if_pos h
theorem s_rule2 (h : ¬ S.1.1 = 16) (h2 : S.2.1.1.2.2.1 = true) : s_rule S Ts = (-3, S) := by unfold s_rule; rw [if_neg h, if_pos h2]
theorem s_rule3 (h : ¬ S.1.1 = 16) (h2 : S.2.1.1.2.2.1 = false) (h3 : (qrd S.2.2.2.1).1 = true) : s_rule S Ts = (nI S.1.1, (Rnew S.1 (qrd S.2.2.2.1) Ts, Knew S.2.1 S.1.1, S.2.2.1, (0, S.2.2.2.1.2), S.2.2.2.2)) := by unfold s_rule; rw [if_neg h, if_neg (by rw [h2]; decide), if_pos h3]
theorem s_rule4 (h : ¬ S.1.1 = 16) (h2 : S.2.1.1.2.2.1 = false) (h3 : (qrd S.2.2.2.1).1 = false) : s_rule S Ts = (-100 - nI (qrd S.2.2.2.1).2.1, (S.1, S.2.1, S.2.2.1, (0, S.2.2.2.1.2), S.2.2.2.2)) := by unfold s_rule; rw [if_neg h, if_neg (by rw [h2]; decide), if_neg (by rw [h3]; decide)]
theorem WI_tp (H : WI S) : TpB S.2.2.2.1 := ⟨H.2.2.2.2.1, H.2.2.2.2.2.1⟩
theorem W_rule (H : WI S) : WI (s_rule S Ts).2 := by
  have hn := H.1
  have tape : ∀ i, i < 0 → S.2.2.2.1.2 i < 256 := fun i hi => absurd hi (Nat.not_lt_zero _)
  by_cases h : S.1.1 = 16
  · rw [s_rule1 h]; exact H
  cases h2 : S.2.1.1.2.2.1 with
  | true => rw [s_rule2 h h2]; exact H
  | false =>
    cases h3 : (qrd S.2.2.2.1).1 with
    | false => rw [s_rule4 h h2 h3]; exact ⟨H.1, H.2.1, H.2.2.1, H.2.2.2.1, Nat.zero_le _, tape, H.2.2.2.2.2.2⟩
    | true =>
      rw [s_rule3 h h2 h3]
      obtain ⟨k1, k2, k3, k4, k5⟩ := H.2.1
      refine ⟨by show S.1.1 + 1 ≤ 16; omega, ⟨fun vs T kd => ?_, k2, k3, fun i hi => ?_, k5⟩, H.2.2.1, fun k e => ?_, Nat.zero_le _, tape, H.2.2.2.2.2.2⟩
      · obtain ⟨p1, p2, p3⟩ := k1 vs T kd
        refine ⟨p1, fun f => ?_, fun r hr hq => ?_⟩
        · have f : S.2.1.1.2.2.1 = true := f
          rw [h2] at f; cases f
        · rw [Eact_Et]
          have hq : (S.2.1.1.2.1 r || decide (r = S.1.1)) = true := hq
          rw [Bool.or_eq_true] at hq
          rcases hq with hq | hq
          · have := p3 r hr hq
            rw [Eact_Et] at this
            have := of_decide_eq_true this
            have : r < S.1.1 := this
            exact decide_eq_true (show r < S.1.1 + 1 by omega)
          · have := of_decide_eq_true hq
            exact decide_eq_true (show r < S.1.1 + 1 by omega)
      · obtain ⟨a, b, c, d⟩ := k4 i hi
        exact ⟨a, b, Nat.le_succ_of_le c, d⟩
      · obtain ⟨a, b, c⟩ := H.2.2.2.1 k e
        exact ⟨Nat.le_succ_of_le a, b, c⟩
end

/-! texts: where tokens lie, what they are -/
def rn (P : Nat → Bool) : Nat → Nat → Nat
  | 0, p => p
  | m + 1, p => if P p = true then rn P m (p + 1) else p
theorem rn_s (P : Nat → Bool) (m p : Nat) : rn P (m + 1) p = if P p = true then rn P m (p + 1) else p := rfl
theorem rn_ge (P : Nat → Bool) : ∀ m p, p ≤ rn P m p ∧ rn P m p ≤ p + m := by
  intro m
  induction m with
  | zero => intro p; exact ⟨Nat.le_refl _, Nat.le_refl _⟩
  | succ m ih =>
    intro p
    rw [rn_s]
    split
    · have := ih (p + 1); omega
    · omega
theorem rn_all (P : Nat → Bool) : ∀ m p i, p ≤ i → i < rn P m p → P i = true := by
  intro m
  induction m with
  | zero => intro p i h1 h2; exact absurd h2 (Nat.not_lt.mpr h1)
  | succ m ih =>
    intro p i h1
    rw [rn_s]
    split
    · rename_i hp
      intro h2
      by_cases e : i = p
      · rw [e]; exact hp
      · exact ih (p + 1) i (by omega) h2
    · intro h2; omega
def tws (x : Nat) : Bool := decide (x = 32) || decide (x = 10)
def tdg (x : Nat) : Bool := decide (48 ≤ x ∧ x ≤ 57)
def tsm (x : Nat) : Bool := decide (97 ≤ x ∧ x ≤ 122)
def tsg (x : Nat) : Bool := [40, 41, 58, 43, 45, 42, 60, 61, 62, 33].contains x
def qskip (T : qTp) (p : Nat) : Nat := rn (fun i => tws (T.2 i)) (T.1 - p) p
def qend (T : qTp) (q : Nat) : Nat := if tdg (T.2 q) = true then rn (fun i => tdg (T.2 i)) (T.1 - (q + 1)) (q + 1) else if tsm (T.2 q) = true then rn (fun i => tsm (T.2 i)) (T.1 - (q + 1)) (q + 1) else q + 1
def qnum (T : qTp) : Nat → Nat → Nat → Nat
  | 0, _, a => a
  | m + 1, p, a => qnum T m (p + 1) (10 * a + (T.2 p - 48))
/-- the letters of distinct -/
def qis (T : qTp) (q : Nat) : Bool := decide (T.2 q = 100) && (decide (T.2 (q + 1) = 105) && (decide (T.2 (q + 2) = 115) && (decide (T.2 (q + 3) = 116) && (decide (T.2 (q + 4) = 105) && (decide (T.2 (q + 5) = 110) && (decide (T.2 (q + 6) = 99) && decide (T.2 (q + 7) = 116)))))))
def qkd (T : qTp) (q : Nat) : Nat := if q < T.1 then (if tdg (T.2 q) = true then (if 4 < qend T q - q then 4 else 1) else if tsm (T.2 q) = true then (if qend T q - q = 1 then (if T.2 q < 105 then 2 else 4) else if qend T q - q = 8 ∧ qis T q = true then 3 else 4) else if tsg (T.2 q) = true then T.2 q else 4) else 0
def qvl (T : qTp) (q : Nat) : Nat := if tdg (T.2 q) = true then qnum T (qend T q - q) q 0 else T.2 q - 97
def qnt (T : qTp) (q : Nat) : Nat := if q < T.1 then qskip T (qend T q) else T.1
theorem qend_gt {T : qTp} {q : Nat} (hq : q < T.1) : q < qend T q ∧ qend T q ≤ T.1 := by
  unfold qend
  split
  · have := rn_ge (fun i => tdg (T.2 i)) (T.1 - (q + 1)) (q + 1); omega
  · split
    · have := rn_ge (fun i => tsm (T.2 i)) (T.1 - (q + 1)) (q + 1); omega
    · omega
theorem qskip_ge {T : qTp} {p : Nat} (hp : p ≤ T.1) : p ≤ qskip T p ∧ qskip T p ≤ T.1 := by
  have := rn_ge (fun i => tws (T.2 i)) (T.1 - p) p
  unfold qskip; omega
theorem qskip_n {T : qTp} : qskip T T.1 = T.1 := by unfold qskip; rw [Nat.sub_self]; rfl
theorem qnt_gt {T : qTp} {q : Nat} (hq : q < T.1) : q < qnt T q ∧ qnt T q ≤ T.1 := by
  unfold qnt
  rw [if_pos hq]
  have h1 := qend_gt hq
  have h2 := qskip_ge h1.2
  omega
theorem qnt_le {T : qTp} (q : Nat) : qnt T q ≤ T.1 := by
  by_cases hq : q < T.1
  · exact (qnt_gt hq).2
  · unfold qnt; rw [if_neg hq]; exact Nat.le_refl _
theorem qkd_n {T : qTp} {q : Nat} (h : ¬ q < T.1) : qkd T q = 0 := if_neg h
theorem qkd_lt {T : qTp} {q : Nat} (h : ¬ qkd T q = 0) : q < T.1 := Classical.byContradiction fun z => h (qkd_n z)
theorem tsg_le {x : Nat} (h : tsg x = true) : 33 ≤ x ∧ x ≤ 62 := by
  unfold tsg at h
  simp at h
  omega
def TpB (T : qTp) : Prop := T.1 ≤ 90 ∧ ∀ i, i < T.1 → T.2 i < 256

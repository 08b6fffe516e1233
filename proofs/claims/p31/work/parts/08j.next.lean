/-! the rule that runs next: of the waiting ones the least priority, the first of these -/
def qnx (pr : Nat → Nat) (Q : Nat → Bool) : Nat → Option Nat
  | 0 => none
  | k + 1 => if Q k then (match qnx pr Q k with
    | none => some k
    | some b => if pr k < pr b then some k else some b) else qnx pr Q k
def oI : Option Nat → Int32
  | none => -1
  | some r => nI r
theorem qnx_lt {pr : Nat → Nat} {Q : Nat → Bool} : ∀ {k b : Nat}, qnx pr Q k = some b → b < k ∧ Q b = true := by
  intro k
  induction k with
  | zero => intro b h; cases h
  | succ k ih =>
    intro b h
    rw [qnx] at h
    by_cases hQ : Q k = true
    · rw [if_pos hQ] at h
      revert h
      cases hq : qnx pr Q k with
      | none => intro h; cases h; exact ⟨by omega, hQ⟩
      | some c =>
        intro h
        have := ih hq
        dsimp only at h
        split at h
        · cases h; exact ⟨by omega, hQ⟩
        · cases h; exact ⟨by omega, this.2⟩
    · rw [if_neg hQ] at h
      have := ih h
      exact ⟨by omega, this.2⟩
theorem qnx_stop {pr : Nat → Nat} {Q : Nat → Bool} {k : Nat} : ∀ {m : Nat}, (∀ i, k ≤ i → i < k + m → Q i = false) → qnx pr Q (k + m) = qnx pr Q k := by
  intro m
  induction m with
  | zero => intro _; rfl
  | succ m ih =>
    intro h
    rw [← Nat.add_assoc, qnx, if_neg (by rw [h (k + m) (by omega) (by omega)]; simp)]
    exact ih (fun i h1 h2 => h i h1 (by omega))
theorem qnx_none {pr : Nat → Nat} {Q : Nat → Bool} : ∀ {k : Nat}, qnx pr Q k = none ↔ ∀ i, i < k → Q i = false := by
  intro k
  induction k with
  | zero => simp [qnx]
  | succ k ih =>
    rw [qnx]
    constructor
    · intro h i hi
      by_cases hQ : Q k = true
      · rw [if_pos hQ] at h
        cases hq : qnx pr Q k with
        | none => rw [hq] at h; cases h
        | some c => rw [hq] at h; dsimp only at h; split at h <;> cases h
      · rw [if_neg hQ] at h
        by_cases e : i = k
        · subst e; simpa using hQ
        · exact ih.mp h i (by omega)
    · intro h
      rw [if_neg (by rw [h k (by omega)]; simp)]
      exact ih.mpr (fun i hi => h i (by omega))
theorem mkn_shr0 {Q : Nat → Bool} {k : Nat} (hk : k < 24) : (mkn 24 Q >>> (nI k &&& 31)) = 0 ↔ ∀ i, k ≤ i → i < 24 → Q i = false := by
  constructor
  · intro h i h1 h2
    have := bt_shr (mkn 24 Q) (v := k) (by omega) (i := i - k) (by omega)
    rw [h, bt_0, if_pos (by omega), show k + (i - k) = i by omega, bt_mkn (by omega)] at this
    simpa [h2] using this.symm
  · intro h
    refine bt_ext (fun i hi => ?_)
    rw [bt_shr _ (by omega) hi, bt_0]
    split
    · rw [bt_mkn (by omega)]
      by_cases h2 : k + i < 24
      · rw [h (k + i) (by omega) h2]; simp
      · rw [decide_eq_false h2]; rfl
    · rw [bt_mkn (by omega)]; rfl
theorem ordered_loop {o : Nat} {h : gH} {Q : Nat → Bool} {pr : Nat → Nat} (h7 : h o 7 = mkn 24 Q) (hp : ∀ r, r < 24 → Q r = true → h 4 r = nI (pr r) ∧ pr r < 100) : ∀ (m k fu : Nat), k + m = 24 → m < fu → Sp (fH_orderedNext_4 o fu (oI (qnx pr Q k)) (nI k) h) (fun p => p = (oI (qnx pr Q 24), h)) := by
  intro m
  induction m with
  | zero =>
    intro k fu hk hfu
    obtain ⟨fu, rfl⟩ : ∃ f, fu = f + 1 := ⟨fu - 1, by omega⟩
    have hk : k = 24 := by omega
    subst hk
    unfold fH_orderedNext_4
    exact Sp_neg (by decide) (Sp_some rfl)
  | succ m ih =>
    intro k fu hk hfu
    obtain ⟨fu, rfl⟩ : ∃ f, fu = f + 1 := ⟨fu - 1, by omega⟩
    have hk24 : k < 24 := by omega
    unfold fH_orderedNext_4
    refine Sp_pos (nltT hk24 (by decide)) ?_
    rw [h7]
    refine Sp_if (fun q => ?_) (fun q => ?_)
    · rw [mkn_shr0 hk24] at q
      refine Sp_some ?_
      have := qnx_stop (pr := pr) (Q := Q) (k := k) (m := m + 1) (fun i h1 h2 => q i h1 (by omega))
      rw [hk] at this
      rw [this]
    · rw [mkn_test (by omega) hk24]
      have step := ih (k + 1) fu (by omega) (by omega)
      rw [qnx] at step
      cases hQ : Q k with
      | false =>
        refine Sp_neg (by simp) ?_
        unfold fH_orderedNext_36
        refine Sp_pos rfl ?_
        rw [hQ, if_neg (by simp)] at step
        rw [nadd_l]; exact step
      | true =>
        refine Sp_pos (by simp) ?_
        unfold fH_orderedNext_36
        refine Sp_neg (by decide) ?_
        rw [hQ, if_pos rfl] at step
        cases hb : qnx pr Q k with
        | none =>
          refine Sp_pos rfl ?_
          unfold fH_orderedNext_67
          rw [hb] at step
          rw [nadd_l]; exact step
        | some b =>
          rw [hb] at step
          obtain ⟨b1, b2⟩ := qnx_lt hb
          refine Sp_neg (neq_m1 (by omega)) ?_
          show Sp (gg (gin (nI k) 24) <| gg (gin (nI b) 24) <| _) _
          refine Sp_gg (gin_t hk24 (by omega)) (Sp_gg (gin_t (by omega) (by omega)) ?_)
          rw [clampn (by omega)]
          have p1 := hp k hk24 hQ
          have p2 := hp b (by omega) b2
          have e2 : h 4 (oI (some b)).toNatClampNeg = nI (pr b) := by
            show h 4 (nI b).toNatClampNeg = _
            rw [clampn (by omega)]; exact p2.1
          rw [p1.1, e2]
          dsimp only at step
          refine Sp_if (fun q => ?_) (fun q => ?_)
          · rw [if_pos ((nlt (by omega) (by omega)).mp q)] at step
            unfold fH_orderedNext_67
            rw [nadd_l]; exact step
          · rw [if_neg (fun z => q ((nlt (by omega) (by omega)).mpr z))] at step
            rw [nadd_l]; exact step
theorem ordered_sp {o : Nat} {h : gH} {Q : Nat → Bool} {pr : Nat → Nat} (h7 : h o 7 = mkn 24 Q) (hp : ∀ r, r < 24 → Q r = true → h 4 r = nI (pr r) ∧ pr r < 100) : fH_orderedNext o h = some (oI (qnx pr Q 24), h) := by
  obtain ⟨x, e, q⟩ := ordered_loop h7 hp 24 0 gfu (by omega) (by unfold gfu; omega)
  unfold fH_orderedNext
  rw [← q]; exact e
/-! a learned rule: who is alone -/
def setd (D : Nat → Nat → Bool) (pv : Nat → Nat) (y : Nat) : Bool := !qany (fun v => (D y v ^^ decide (v = pv y)))
def aln (vs : Nat → Bool) (pv : Nat → Nat) (D : Nat → Nat → Bool) (u : Nat) : Bool := (List.range 8).all (fun y => decide (y = u) || !vs y || setd D pv y)
def kpN (vs : Nat → Bool) (pv : Nat → Nat) (D : Nat → Nat → Bool) (u v : Nat) : Bool := D u v && !(aln vs pv D u && decide (v = pv u))
def qcnt (g : Nat → Bool) : Nat → Nat
  | 0 => 0
  | k + 1 => qcnt g k + (if g k then 1 else 0)
theorem qcnt_le (g : Nat → Bool) : ∀ k, qcnt g k ≤ k := by
  intro k; induction k with
  | zero => exact Nat.le_refl _
  | succ k ih => rw [qcnt]; split <;> omega
theorem qcnt_0 (g : Nat → Bool) : ∀ k, qcnt g k = 0 ↔ ∀ i, i < k → g i = false := by
  intro k; induction k with
  | zero => simp [qcnt]
  | succ k ih =>
    rw [qcnt]
    constructor
    · intro h i hi
      by_cases e : i = k
      · subst e; cases hg : g i with
        | false => rfl
        | true => rw [hg] at h; simp at h
      · exact ih.mp (by omega) i (by omega)
    · intro h
      rw [ih.mpr (fun i hi => h i (by omega)), h k (by omega)]; rfl
theorem qcnt_del (g : Nat → Bool) (u : Nat) (hg : g u = true) : ∀ k, u < k → qcnt (fun i => g i && !decide (i = u)) k + 1 = qcnt g k := by
  intro k; induction k with
  | zero => intro h; omega
  | succ k ih =>
    intro h
    rw [qcnt, qcnt]
    by_cases e : u = k
    · subst e
      have : ∀ m, m ≤ u → qcnt (fun i => g i && !decide (i = u)) m = qcnt g m := by
        intro m; induction m with
        | zero => intro _; rfl
        | succ m ihm =>
          intro hm; rw [qcnt, qcnt, ihm (by omega)]
          have : ¬ m = u := by omega
          simp [this]
      rw [this u (Nat.le_refl _), hg]; simp
    · have := ih (by omega)
      have e2 : ¬ k = u := fun z => e z.symm
      simp only [e2, decide_false, Bool.not_false, Bool.and_true]
      omega


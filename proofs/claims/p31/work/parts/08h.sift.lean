/-! what a rule leaves: of three rows of values, and which ways are had -/
def swz (e2 : Nat → Bool) (W : Nat → Nat → Nat → Bool) (x y : Nat) : Bool := qany (fun z => W x y z && e2 z)
def sA0 (e0 e1 e2 : Nat → Bool) (W : Nat → Nat → Nat → Bool) (x : Nat) : Bool := e0 x && qany (fun y => e1 y && swz e2 W x y)
def sA1 (e0 e1 e2 : Nat → Bool) (W : Nat → Nat → Nat → Bool) (y : Nat) : Bool := e1 y && qany (fun x => e0 x && swz e2 W x y)
def sA2 (e0 e1 e2 : Nat → Bool) (W : Nat → Nat → Nat → Bool) (z : Nat) : Bool := e2 z && qany (fun x => e0 x && qany (fun y => e1 y && W x y z))
theorem qany_split (k : Nat) (hk : k < 10) (g : Nat → Bool) : qany (fun y => decide (k ≤ y) && g y) = (g k || qany (fun y => decide (k + 1 ≤ y) && g y)) := by
  rw [Bool.eq_iff_iff, Bool.or_eq_true, qany_iff, qany_iff]
  constructor
  · rintro ⟨v, hv, h⟩
    simp only [Bool.and_eq_true, decide_eq_true_eq] at h
    by_cases e : v = k
    · subst e; exact Or.inl h.2
    · right; exact ⟨v, hv, by simp only [Bool.and_eq_true, decide_eq_true_eq]; exact ⟨by omega, h.2⟩⟩
  · rintro (h | ⟨v, hv, h⟩)
    · exact ⟨k, hk, by simp [h]⟩
    · simp only [Bool.and_eq_true, decide_eq_true_eq] at h
      exact ⟨v, hv, by simp only [Bool.and_eq_true, decide_eq_true_eq]; exact ⟨by omega, h.2⟩⟩
theorem qany_none (k : Nat) (hk : 10 ≤ k) (g : Nat → Bool) : qany (fun y => decide (k ≤ y) && g y) = false := (qany_f _).mpr (fun v hv => by rw [decide_eq_false (by omega)]; rfl)
theorem k3 {α : Type} {k : Int32 → Int32 → Int32 → Int32 → gH → Option α} {a : Int32} {h : gH} {Q : α → Prop} {F S Z F2 S2 Z2 : Nat → Bool} (H : Sp (k (mkn 10 F) (mkn 10 S) (mkn 10 Z) a h) Q) (hF : ∀ i, i < 10 → F2 i = F i) (hS : ∀ i, i < 10 → S2 i = S i) (hZ : ∀ i, i < 10 → Z2 i = Z i) : Sp (k (mkn 10 F2) (mkn 10 S2) (mkn 10 Z2) a h) Q := by
  rw [mkn_congr hF, mkn_congr hS, mkn_congr hZ]; exact H
theorem sift89 {o r x : Nat} (hr : r < 16) (hx : x < 10) {k54 : Int32 → Int32 → Int32 → Int32 → gH → Option gH} {v4 v5 : Int32} {e1 e2 : Nat → Bool} {W : Nat → Nat → Nat → Bool} {h : gH} (hW : ∀ y, y < 10 → h 7 (100 * r + 10 * x + y) = mkn 10 (W x y)) {Q : gH → Prop} : ∀ (m k fu : Nat) (F S Z : Nat → Bool), k + m = 10 → m < fu →
    Sp (k54 (mkn 10 (fun i => F i || (decide (i = x) && qany (fun y => decide (k ≤ y) && (e1 y && swz e2 W x y))))) (mkn 10 (fun i => S i || (decide (k ≤ i) && (e1 i && swz e2 W x i)))) (mkn 10 (fun i => Z i || qany (fun y => decide (k ≤ y) && (e1 y && (W x y i && e2 i))))) (nI (x + 1)) h) Q →
    Sp (fR_sift_89 o k54 (nI r) v4 v5 (mkn 10 e1) (mkn 10 e2) (nI x) (nI (100 * r + 10 * x)) fu (mkn 10 F) (mkn 10 S) (mkn 10 Z) (nI k) h) Q := by
  intro m
  induction m with
  | zero =>
    intro k fu F S Z hk hfu hk54
    obtain ⟨fu, rfl⟩ : ∃ f, fu = f + 1 := ⟨fu - 1, by omega⟩
    have hk : k = 10 := by omega
    subst hk
    unfold fR_sift_89
    refine Sp_neg (by decide) ?_
    rw [nadd_l]
    refine k3 hk54 (fun i hi => ?_) (fun i hi => ?_) (fun i hi => ?_)
    · rw [qany_none 10 (by omega)]; simp
    · rw [decide_eq_false (by omega)]; simp
    · rw [qany_none 10 (by omega)]; simp
  | succ m ih =>
    intro k fu F S Z hk hfu hk54
    obtain ⟨fu, rfl⟩ : ∃ f, fu = f + 1 := ⟨fu - 1, by omega⟩
    have hk10 : k < 10 := by omega
    unfold fR_sift_89
    refine Sp_pos (nltT hk10 (by decide)) ?_
    rw [mkn_test (by omega) hk10]
    have hS : ∀ i, i < 10 → (decide (k ≤ i) && (e1 i && swz e2 W x i)) = ((decide (i = k) && (e1 k && swz e2 W x k)) || (decide (k + 1 ≤ i) && (e1 i && swz e2 W x i))) := fun i _ => by
      by_cases hik : i = k
      · subst hik; simp
      · have : decide (k + 1 ≤ i) = decide (k ≤ i) := by apply decide_eq_decide.mpr; omega
        rw [this]; simp [hik]
    -- what the rest needs
    have go0 : (e1 k && swz e2 W x k) = false → Sp (fR_sift_89 o k54 (nI r) v4 v5 (mkn 10 e1) (mkn 10 e2) (nI x) (nI (100 * r + 10 * x)) fu (mkn 10 F) (mkn 10 S) (mkn 10 Z) (nI (k + 1)) h) Q := fun hz => by
      refine ih (k + 1) fu F S Z (by omega) (by omega) ?_
      refine k3 hk54 (fun i hi => ?_) (fun i hi => ?_) (fun i hi => ?_)
      · rw [qany_split k hk10, hz]; simp
      · rw [hS i hi, hz]; simp
      · · rw [qany_split k hk10]
          have : (e1 k && (W x k i && e2 i)) = false := by
            cases he : e1 k with
            | false => rfl
            | true =>
              rw [he] at hz
              have := (qany_f _).mp (show qany (fun z => W x k z && e2 z) = false from by simpa [swz] using hz) i hi
              simpa using this
          rw [this]; simp
    rcases he : e1 k with _ | _
    · refine Sp_pos (by simp) ?_
      unfold fR_sift_123
      refine Sp_pos rfl ?_
      rw [nadd_l]
      exact go0 (by rw [he]; rfl)
    · refine Sp_neg (by simp) ?_
      rw [nI_add]
      refine Sp_gg (gin_t (by omega) (by omega)) ?_
      rw [clampn (by omega), hW k hk10, mkn_and (by omega)]
      unfold fR_sift_123
      cases hw : swz e2 W x k with
      | false =>
        refine Sp_pos ((mkn10_0 _).mpr hw) ?_
        rw [nadd_l]
        exact go0 (by rw [hw, Bool.and_false])
      | true =>
        have hne : ¬ mkn 10 (fun i => W x k i && e2 i) = 0 := fun z => by
          have z2 := (mkn10_0 _).mp z
          unfold swz at hw; rw [z2] at hw; cases hw
        refine Sp_neg hne ?_
        rw [mkn_ins (by omega) hx, mkn_ins (by omega) hk10, mkn_or (by omega), nadd_l]
        refine ih (k + 1) fu _ _ _ (by omega) (by omega) ?_
        refine k3 hk54 (fun i hi => ?_) (fun i hi => ?_) (fun i hi => ?_)
        · rw [qany_split k hk10, he, hw]; cases F i <;> cases decide (i = x) <;> simp
        · rw [hS i hi, he, hw, Bool.or_assoc]; simp
        · rw [qany_split k hk10, he, Bool.or_assoc]; simp
theorem sift54 {o r : Nat} (hr : r < 16) {v4 : Int32} {e0 e1 e2 : Nat → Bool} {W : Nat → Nat → Nat → Bool} {h : gH} (hW : ∀ x, x < 10 → ∀ y, y < 10 → h 7 (100 * r + 10 * x + y) = mkn 10 (W x y)) {Q : gH → Prop} (hend : ∀ fu, 0 < fu → Sp (fR_sift_54 o (nI r) v4 (mkn 10 e0) (mkn 10 e1) (mkn 10 e2) fu (mkn 10 (sA0 e0 e1 e2 W)) (mkn 10 (sA1 e0 e1 e2 W)) (mkn 10 (sA2 e0 e1 e2 W)) (nI 10) h) Q) : ∀ (m k fu : Nat) (F S Z : Nat → Bool), k + m = 10 → m < fu →
    (∀ i, i < 10 → (F i || (decide (k ≤ i) && sA0 e0 e1 e2 W i)) = sA0 e0 e1 e2 W i) → (∀ i, i < 10 → (S i || (e1 i && qany (fun x => decide (k ≤ x) && (e0 x && swz e2 W x i)))) = sA1 e0 e1 e2 W i) → (∀ i, i < 10 → (Z i || (e2 i && qany (fun x => decide (k ≤ x) && (e0 x && qany (fun y => e1 y && W x y i))))) = sA2 e0 e1 e2 W i) →
    Sp (fR_sift_54 o (nI r) v4 (mkn 10 e0) (mkn 10 e1) (mkn 10 e2) fu (mkn 10 F) (mkn 10 S) (mkn 10 Z) (nI k) h) Q := by
  intro m
  induction m with
  | zero =>
    intro k fu F S Z hk hfu h1 h2 h3
    have hk : k = 10 := by omega
    subst hk
    rw [mkn_congr (f := F) (g := sA0 e0 e1 e2 W) (fun i hi => by rw [← h1 i hi, decide_eq_false (by omega)]; simp), mkn_congr (f := S) (g := sA1 e0 e1 e2 W) (fun i hi => by rw [← h2 i hi, qany_none 10 (by omega)]; simp), mkn_congr (f := Z) (g := sA2 e0 e1 e2 W) (fun i hi => by rw [← h3 i hi, qany_none 10 (by omega)]; simp)]
    exact hend fu (by omega)
  | succ m ih =>
    intro k fu F S Z hk hfu h1 h2 h3
    obtain ⟨fu, rfl⟩ : ∃ f, fu = f + 1 := ⟨fu - 1, by omega⟩
    have hk10 : k < 10 := by omega
    unfold fR_sift_54
    refine Sp_pos (nltT hk10 (by decide)) ?_
    rw [mkn_test (by omega) hk10]
    have dk : ∀ i, ¬ i = k → decide (k + 1 ≤ i) = decide (k ≤ i) := fun i hi => by apply decide_eq_decide.mpr; omega
    rcases he : e0 k with _ | _
    · refine Sp_pos (by simp) ?_
      rw [nadd_l]
      refine ih (k + 1) fu F S Z (by omega) (by omega) (fun i hi => ?_) (fun i hi => ?_) (fun i hi => ?_)
      · refine Eq.trans ?_ (h1 i hi)
        by_cases hik : i = k
        · subst hik; simp [sA0, he]
        · rw [dk i hik]
      · rw [← h2 i hi, qany_split k hk10, he]; simp
      · rw [← h3 i hi, qany_split k hk10, he]; simp
    · refine Sp_neg (by simp) ?_
      rw [nmul_l, nmul_l, nI_add, show r * 100 + k * 10 = 100 * r + 10 * k by omega]
      refine sift89 (x := k) hr hk10 (hW k hk10) 10 0 gfu F S Z (by omega) (by unfold gfu; omega) ?_
      refine ih (k + 1) fu _ _ _ (by omega) (by omega) (fun i hi => ?_) (fun i hi => ?_) (fun i hi => ?_)
      · refine Eq.trans ?_ (h1 i hi)
        by_cases hik : i = k
        · subst hik; rw [decide_eq_false (show ¬ i + 1 ≤ i by omega)]; simp [sA0, he]
        · rw [dk i hik]; simp [hik]
      · rw [← h2 i hi, qany_split k hk10, he]
        cases S i <;> cases e1 i <;> simp
      · rw [← h3 i hi, qany_split k hk10, he]
        have : qany (fun y => decide (0 ≤ y) && (e1 y && (W k y i && e2 i))) = (e2 i && qany (fun y => e1 y && W k y i)) := by
          cases e2 i with
          | false => rw [Bool.false_and, qany_f]; intro v _; simp
          | true => rw [Bool.true_and]; exact qany_congr (fun v _ => by simp)
        rw [this]
        cases Z i <;> cases e2 i <;> simp


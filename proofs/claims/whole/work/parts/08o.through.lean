/-! the model goes through all ways -/
def qsm (f : Nat → Nat) : Nat → Nat → Nat
  | _, 0 => 0
  | k, m + 1 => f k + qsm f (k + 1) m
def n1 (b : Bool) : Nat := if b then 1 else 0
def wpic (h : gH) (F S Z : Nat → Bool) (c : Nat) : Prop := h 81 0 = mkn 10 F ∧ h 81 1 = mkn 10 S ∧ h 81 2 = mkn 10 Z ∧ h 65 34 = nI c
def wfr (h h1 : gH) : Prop := (∀ b, b ≠ 65 → b ≠ 81 → h1 b = h b) ∧ ∀ k, k ≠ 34 → h1 65 k = h 65 k
theorem wfr_tr {h h1 h2 : gH} (a : wfr h h1) (b : wfr h1 h2) : wfr h h2 := ⟨fun x p q => (b.1 x p q).trans (a.1 x p q), fun k p => (b.2 k p).trans (a.2 k p)⟩
theorem wpic_congr {h : gH} {F S Z F2 S2 Z2 : Nat → Bool} {c c2 : Nat} (H : wpic h F S Z c) (hF : ∀ i, i < 10 → F2 i = F i) (hS : ∀ i, i < 10 → S2 i = S i) (hZ : ∀ i, i < 10 → Z2 i = Z i) (hc : c2 = c) : wpic h F2 S2 Z2 c2 := by
  unfold wpic at *
  rw [mkn_congr hF, mkn_congr hS, mkn_congr hZ, hc]; exact H
def TB (h : gH) (r : Nat) (T : Nat → Nat → Nat → Bool) : Prop := ∀ x, x < 10 → ∀ y, y < 10 → ∀ z, z < 10 → h 69 (1000 * r + 100 * x + 10 * y + z) = b2i (T x y z)
theorem TB_fr {h h1 : gH} {r : Nat} {T : Nat → Nat → Nat → Bool} (a : wfr h h1) (H : TB h r T) : TB h1 r T := fun x hx y hy z hz => by rw [a.1 69 (by omega) (by omega)]; exact H x hx y hy z hz
theorem loop80 {r x y : Nat} (hr : r < 16) (hx : x < 10) (hy : y < 10) {d0 d1 d2 : Nat → Bool} {T : Nat → Nat → Nat → Bool} {k60 : Int32 → gH → Option gH} {Q : gH → Prop} : ∀ (m k fu : Nat) (h : gH) (F S Z : Nat → Bool) (c : Nat), k + m = 10 → m < fu → TB h r T → wpic h F S Z c →
    (∀ h', wfr h h' → wpic h' (fun i => F i || (decide (i = x) && (d1 y && qany (fun z => decide (k ≤ z) && (T x y z && d2 z))))) (fun i => S i || (decide (i = y) && (d1 y && qany (fun z => decide (k ≤ z) && (T x y z && d2 z))))) (fun i => Z i || (d1 y && (decide (k ≤ i) && (T x y i && d2 i)))) (c + if d1 y then qsm (fun z => n1 (T x y z && d2 z)) k m else 0) → Sp (k60 (nI (y + 1)) h') Q) →
    Sp (fM_goesThrough_80 k60 (nI r) (mkn 10 d0) (mkn 10 d1) (mkn 10 d2) (nI x) (nI y) fu (nI k) h) Q := by
  intro m
  induction m with
  | zero =>
    intro k fu h F S Z c hk hfu hT hp hend
    obtain ⟨fu, rfl⟩ : ∃ f, fu = f + 1 := ⟨fu - 1, by omega⟩
    have hk : k = 10 := by omega
    subst hk
    unfold fM_goesThrough_80
    refine Sp_neg (by decide) ?_
    rw [nadd_l]
    refine hend h ⟨fun _ _ _ => rfl, fun _ _ => rfl⟩ (wpic_congr hp (fun i _ => ?_) (fun i _ => ?_) (fun i hi => ?_) (by simp [qsm]))
    · rw [qany_none 10 (by omega)]; simp
    · rw [qany_none 10 (by omega)]; simp
    · rw [decide_eq_false (by omega)]; simp
  | succ m ih =>
    intro k fu h F S Z c hk hfu hT hp hend
    obtain ⟨fu, rfl⟩ : ∃ f, fu = f + 1 := ⟨fu - 1, by omega⟩
    have hk10 : k < 10 := by omega
    unfold fM_goesThrough_80
    refine Sp_pos (nltT hk10 (by decide)) ?_
    rw [mkn_test (by omega) hy, mkn_test (by omega) hk10]
    have dk : ∀ i, i < 10 → (decide (k ≤ i) && (T x y i && d2 i)) = ((decide (i = k) && (T x y k && d2 k)) || (decide (k + 1 ≤ i) && (T x y i && d2 i))) := fun i _ => by
      by_cases hik : i = k
      · subst hik; simp
      · have : decide (k + 1 ≤ i) = decide (k ≤ i) := by apply decide_eq_decide.mpr; omega
        rw [this]; simp [hik]
    cases hd1 : d1 y with
    | false =>
      refine Sp_neg (by simp) ?_
      rw [nadd_l]
      refine hend h ⟨fun _ _ _ => rfl, fun _ _ => rfl⟩ (wpic_congr hp (fun i _ => ?_) (fun i _ => ?_) (fun i hi => ?_) ?_)
      · rw [hd1]; simp
      · rw [hd1]; simp
      · rw [hd1]; simp
      · rw [hd1]; simp
    | true =>
      refine Sp_pos (by simp) ?_
      -- on
      have go : ∀ (h1 : gH) (F1 S1 Z1 : Nat → Bool) (c1 : Nat), wfr h h1 → wpic h1 F1 S1 Z1 c1 → (∀ i, i < 10 → F1 i = (F i || (decide (i = x) && (T x y k && d2 k)))) → (∀ i, i < 10 → S1 i = (S i || (decide (i = y) && (T x y k && d2 k)))) → (∀ i, i < 10 → Z1 i = (Z i || (decide (i = k) && (T x y k && d2 k)))) → c1 = c + n1 (T x y k && d2 k) → Sp (fM_goesThrough_80 k60 (nI r) (mkn 10 d0) (mkn 10 d1) (mkn 10 d2) (nI x) (nI y) fu (nI (k + 1)) h1) Q := by
        intro h1 F1 S1 Z1 c1 w1 p1 eF eS eZ ec
        refine ih (k + 1) fu h1 F1 S1 Z1 c1 (by omega) (by omega) (TB_fr w1 hT) p1 (fun h2 w2 p2 => ?_)
        refine hend h2 (wfr_tr w1 w2) (wpic_congr p2 (fun i hi => ?_) (fun i hi => ?_) (fun i hi => ?_) ?_)
        · rw [eF i hi, qany_split k hk10, hd1]; cases F i <;> cases decide (i = x) <;> simp
        · rw [eS i hi, qany_split k hk10, hd1]; cases S i <;> cases decide (i = y) <;> simp
        · rw [eZ i hi, dk i hi, hd1]; cases Z i <;> simp
        · rw [ec, hd1]; simp only [qsm, if_true]; omega
      have same : (T x y k && d2 k) = false → Sp (fM_goesThrough_80 k60 (nI r) (mkn 10 d0) (mkn 10 d1) (mkn 10 d2) (nI x) (nI y) fu (nI (k + 1)) h) Q := fun hz =>
        go h F S Z c ⟨fun _ _ _ => rfl, fun _ _ => rfl⟩ hp (fun i _ => by rw [hz]; simp) (fun i _ => by rw [hz]; simp) (fun i _ => by rw [hz]; simp) (by rw [hz]; rfl)
      rw [nadd_l]
      cases hd2 : d2 k with
      | false =>
        refine Sp_neg (by simp) ?_
        exact same (by rw [hd2]; simp)
      | true =>
        refine Sp_pos (by simp) ?_
        rw [nmul_r, nmul_r, nmul_r, nI_add, nI_add, nI_add]
        refine Sp_gg (gin_t (by omega) (by omega)) ?_
        rw [clampn (by omega), hT x hx y hy k hk10]
        cases hTk : T x y k with
        | false =>
          refine Sp_pos (by decide) ?_
          exact same (by rw [hTk]; simp)
        | true =>
          refine Sp_neg (by decide) (Sp_let (Sp_let (Sp_let (Sp_let ?_))))
          obtain ⟨p0, p1, p2, p3⟩ := hp
          rw [show (0 : Int32).toNatClampNeg = 0 from rfl, show (1 : Int32).toNatClampNeg = 1 from rfl, show (2 : Int32).toNatClampNeg = 2 from rfl]
          refine go _ (fun i => F i || decide (i = x)) (fun i => S i || decide (i = y)) (fun i => Z i || decide (i = k)) (c + 1) ?_ ?_ (fun i _ => by rw [hTk, hd2]; simp) (fun i _ => by rw [hTk, hd2]; simp) (fun i _ => by rw [hTk, hd2]; simp) (by rw [hTk, hd2]; rfl)
          · refine ⟨fun b h1 h2 => ?_, fun j hj => ?_⟩
            · rw [hu_ne h2, hu_ne h2, hu_ne h2, hu_ne h1]
            · rw [hu_o _ _ _ _ _ (by omega), hu_o _ _ _ _ _ (by omega), hu_o _ _ _ _ _ (by omega), hu_k _ _ _ _ hj]
          · refine ⟨?_, ?_, ?_, ?_⟩
            · rw [hu_k _ _ _ _ (by omega), hu_k _ _ _ _ (by omega), hu_same, hu_o _ _ _ _ _ (by omega), p0, mkn_ins (by omega) hx]
            · rw [hu_k _ _ _ _ (by omega), hu_same, hu_k _ _ _ _ (by omega), hu_o _ _ _ _ _ (by omega), p1, mkn_ins (by omega) hy]
            · rw [hu_same, hu_k _ _ _ _ (by omega), hu_k _ _ _ _ (by omega), hu_o _ _ _ _ _ (by omega), p2, mkn_ins (by omega) hk10]
            · rw [hu_o _ _ _ _ _ (by omega), hu_o _ _ _ _ _ (by omega), hu_o _ _ _ _ _ (by omega), hu_same, p3, nadd_l]
def nyz (d1 d2 : Nat → Bool) (T : Nat → Nat → Nat → Bool) (x y : Nat) : Nat := if d1 y then qsm (fun z => n1 (T x y z && d2 z)) 0 10 else 0
theorem loop60 {r x : Nat} (hr : r < 16) (hx : x < 10) {d0 d1 d2 : Nat → Bool} {T : Nat → Nat → Nat → Bool} {k50 : Int32 → gH → Option gH} {Q : gH → Prop} : ∀ (m k fu : Nat) (h : gH) (F S Z : Nat → Bool) (c : Nat), k + m = 10 → m < fu → TB h r T → wpic h F S Z c →
    (∀ h', wfr h h' → wpic h' (fun i => F i || (decide (i = x) && (d0 x && qany (fun y => decide (k ≤ y) && (d1 y && swz d2 T x y))))) (fun i => S i || (d0 x && (decide (k ≤ i) && (d1 i && swz d2 T x i)))) (fun i => Z i || (d0 x && qany (fun y => decide (k ≤ y) && (d1 y && (T x y i && d2 i))))) (c + if d0 x then qsm (nyz d1 d2 T x) k m else 0) → Sp (k50 (nI (x + 1)) h') Q) →
    Sp (fM_goesThrough_60 k50 (nI r) (mkn 10 d0) (mkn 10 d1) (mkn 10 d2) (nI x) fu (nI k) h) Q := by
  intro m
  induction m with
  | zero =>
    intro k fu h F S Z c hk hfu hT hp hend
    obtain ⟨fu, rfl⟩ : ∃ f, fu = f + 1 := ⟨fu - 1, by omega⟩
    have hk : k = 10 := by omega
    subst hk
    unfold fM_goesThrough_60
    refine Sp_neg (by decide) ?_
    rw [nadd_l]
    refine hend h ⟨fun _ _ _ => rfl, fun _ _ => rfl⟩ (wpic_congr hp (fun i _ => ?_) (fun i hi => ?_) (fun i hi => ?_) (by simp [qsm]))
    · rw [qany_none 10 (by omega)]; simp
    · rw [decide_eq_false (by omega)]; simp
    · rw [qany_none 10 (by omega)]; simp
  | succ m ih =>
    intro k fu h F S Z c hk hfu hT hp hend
    obtain ⟨fu, rfl⟩ : ∃ f, fu = f + 1 := ⟨fu - 1, by omega⟩
    have hk10 : k < 10 := by omega
    unfold fM_goesThrough_60
    refine Sp_pos (nltT hk10 (by decide)) ?_
    rw [mkn_test (by omega) hx]
    cases hd0 : d0 x with
    | false =>
      refine Sp_neg (by simp) ?_
      rw [nadd_l]
      refine hend h ⟨fun _ _ _ => rfl, fun _ _ => rfl⟩ (wpic_congr hp (fun i _ => ?_) (fun i _ => ?_) (fun i hi => ?_) ?_)
      · rw [hd0]; simp
      · rw [hd0]; simp
      · rw [hd0]; simp
      · rw [hd0]; simp
    | true =>
      refine Sp_pos (by simp) ?_
      refine loop80 hr hx hk10 10 0 gfu h F S Z c (by omega) (by unfold gfu; omega) hT hp (fun h1 w1 p1 => ?_)
      refine ih (k + 1) fu h1 _ _ _ _ (by omega) (by omega) (TB_fr w1 hT) p1 (fun h2 w2 p2 => ?_)
      have hsw : qany (fun z => decide (0 ≤ z) && (T x k z && d2 z)) = swz d2 T x k := qany_congr (fun v _ => by simp)
      refine hend h2 (wfr_tr w1 w2) (wpic_congr p2 (fun i hi => ?_) (fun i hi => ?_) (fun i hi => ?_) ?_)
      · rw [qany_split k hk10, hd0, hsw]; cases F i <;> cases decide (i = x) <;> simp
      · rw [hd0, hsw]
        by_cases hik : i = k
        · subst hik; rw [decide_eq_false (show ¬ i + 1 ≤ i by omega)]; simp
        · have : decide (k + 1 ≤ i) = decide (k ≤ i) := by apply decide_eq_decide.mpr; omega
          rw [this]; simp [hik]
      · rw [qany_split k hk10, hd0]; cases Z i <;> simp
      · rw [hd0]; simp only [qsm, if_true, nyz]; omega
theorem loop50 {r : Nat} (hr : r < 16) {d0 d1 d2 : Nat → Bool} {T : Nat → Nat → Nat → Bool} : ∀ (m k fu : Nat) (h : gH) (F S Z : Nat → Bool) (c : Nat), k + m = 10 → m < fu → TB h r T → wpic h F S Z c →
    Sp (fM_goesThrough_50 (nI r) (mkn 10 d0) (mkn 10 d1) (mkn 10 d2) fu (nI k) h) (fun h' => wfr h h' ∧ wpic h' (fun i => F i || (decide (k ≤ i) && sA0 d0 d1 d2 T i)) (fun i => S i || (d1 i && qany (fun x => decide (k ≤ x) && (d0 x && swz d2 T x i)))) (fun i => Z i || (d2 i && qany (fun x => decide (k ≤ x) && (d0 x && qany (fun y => d1 y && T x y i))))) (c + qsm (fun x => if d0 x then qsm (nyz d1 d2 T x) 0 10 else 0) k m)) := by
  intro m
  induction m with
  | zero =>
    intro k fu h F S Z c hk hfu hT hp
    obtain ⟨fu, rfl⟩ : ∃ f, fu = f + 1 := ⟨fu - 1, by omega⟩
    have hk : k = 10 := by omega
    subst hk
    unfold fM_goesThrough_50
    refine Sp_neg (by decide) (Sp_some ⟨⟨fun _ _ _ => rfl, fun _ _ => rfl⟩, wpic_congr hp (fun i hi => ?_) (fun i hi => ?_) (fun i hi => ?_) (by simp [qsm])⟩)
    · rw [decide_eq_false (by omega)]; simp
    · rw [qany_none 10 (by omega)]; simp
    · rw [qany_none 10 (by omega)]; simp
  | succ m ih =>
    intro k fu h F S Z c hk hfu hT hp
    obtain ⟨fu, rfl⟩ : ∃ f, fu = f + 1 := ⟨fu - 1, by omega⟩
    have hk10 : k < 10 := by omega
    unfold fM_goesThrough_50
    refine Sp_pos (nltT hk10 (by decide)) ?_
    refine loop60 hr hk10 10 0 gfu h F S Z c (by omega) (by unfold gfu; omega) hT hp (fun h1 w1 p1 => ?_)
    refine Sp_mono (ih (k + 1) fu h1 _ _ _ _ (by omega) (by omega) (TB_fr w1 hT) p1) ?_
    rintro h2 ⟨w2, p2⟩
    refine ⟨wfr_tr w1 w2, wpic_congr p2 (fun i hi => ?_) (fun i hi => ?_) (fun i hi => ?_) ?_⟩
    · have e : qany (fun y => decide (0 ≤ y) && (d1 y && swz d2 T k y)) = qany (fun y => d1 y && swz d2 T k y) := qany_congr (fun v _ => by simp)
      rw [e]
      by_cases hik : i = k
      · subst hik; rw [decide_eq_false (show ¬ i + 1 ≤ i by omega)]; simp [sA0]
      · have : decide (k + 1 ≤ i) = decide (k ≤ i) := by apply decide_eq_decide.mpr; omega
        rw [this]; simp [hik]
    · rw [qany_split k hk10]; cases S i <;> cases d1 i <;> cases d0 k <;> simp
    · rw [qany_split k hk10]
      have e : qany (fun y => decide (0 ≤ y) && (d1 y && (T k y i && d2 i))) = (d2 i && qany (fun y => d1 y && T k y i)) := by
        cases d2 i with
        | false => rw [Bool.false_and, qany_f]; intro v _; simp
        | true => rw [Bool.true_and]; exact qany_congr (fun v _ => by simp)
      rw [e]; cases Z i <;> cases d2 i <;> cases d0 k <;> simp
    · simp only [qsm]; omega

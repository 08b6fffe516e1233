theorem ushr9 (x : Int32) : ∃ s, s < 2 ^ 31 ∧ (x.toUInt32 >>> ((9 : Int32).toUInt32 &&& Int32.toUInt32 31)).toInt32 = nI s := by
  have hx : x = nI x.toBitVec.toNat := Int32.toBitVec_inj.mp (by rw [nI_bv]; simp)
  have h32 : x.toBitVec.toNat < 2 ^ 32 := x.toBitVec.isLt
  refine ⟨x.toBitVec.toNat / 2 ^ 9, by omega, ?_⟩
  generalize x.toBitVec.toNat = n at hx h32
  rw [hx]
  exact pk_ushrN h32 9 9 (by decide)
theorem shuf41 {o : Nat} {h : gH} {Q : Nat → Bool} (h7 : h o 7 = mkn 24 Q) : ∀ (m k fu p : Nat), k + m = 24 → m < fu → p < qcnt (fun i => Q (k + i)) m →
    Sp (fH_shuffledNext_41 o fu (nI p) (nI k) h) (fun x => ∃ r, r < 24 ∧ Q r = true ∧ x = (nI r, h)) := by
  intro m
  induction m with
  | zero => intro k fu p _ _ hp; simp [qcnt] at hp
  | succ m ih =>
    intro k fu p hk hfu hp
    obtain ⟨fu, rfl⟩ : ∃ f, fu = f + 1 := ⟨fu - 1, by omega⟩
    have hk24 : k < 24 := by omega
    have hcl := qcnt_le (fun i => Q (k + i)) (m + 1)
    -- the first taken off
    have hsp : ∀ m, qcnt (fun i => Q (k + i)) (m + 1) = (if Q k then 1 else 0) + qcnt (fun i => Q (k + 1 + i)) m := by
      intro m
      induction m with
      | zero => simp [qcnt]
      | succ m ihm =>
        rw [qcnt, ihm, qcnt, show k + (m + 1) = k + 1 + m by omega]; omega
    rw [hsp] at hp
    have hle := qcnt_le (fun i => Q (k + 1 + i)) m
    have hpb : p < 2 ^ 31 := by
      have : (if Q k then 1 else 0) ≤ 1 := by split <;> omega
      omega
    unfold fH_shuffledNext_41
    refine Sp_pos (nltT hk24 (by decide)) ?_
    rw [h7, mkn_test (by omega) hk24, nadd_l]
    cases hq : Q k with
    | false =>
      rw [hq] at hp
      have e : nI p - (if false = true then (1 : Int32) else 0) = nI p := by
        rw [if_neg (by simp)]; exact Int32.sub_zero _
      rw [e]
      refine Sp_neg (nI_pos hpb) ?_
      exact ih (k + 1) fu p (by omega) (by omega) (by simpa using hp)
    | true =>
      rw [hq] at hp
      rw [if_pos rfl]
      cases p with
      | zero =>
        refine Sp_pos (by decide) (Sp_some ⟨k, hk24, hq, rfl⟩)
      | succ p =>
        have e : nI (p + 1) - (1 : Int32) = nI p := nI_pred p
        rw [e]
        refine Sp_neg (nI_pos (by omega)) ?_
        exact ih (k + 1) fu p (by omega) (by omega) (by simp at hp; omega)
theorem qcnt_16 {Q : Nat → Bool} (h : ∀ i, 16 ≤ i → i < 24 → Q i = false) : qcnt Q 24 = qcnt Q 16 := by
  have : ∀ m, m ≤ 8 → qcnt Q (16 + m) = qcnt Q 16 := by
    intro m
    induction m with
    | zero => intro _; rfl
    | succ m ih => intro hm; rw [← Nat.add_assoc, qcnt, ih (by omega), h (16 + m) (by omega) (by omega)]; rfl
  exact this 8 (by omega)
theorem shuffled_sp {o : Nat} {h : gH} {Q : Nat → Bool} (h7 : h o 7 = mkn 24 Q) (h16 : ∀ i, 16 ≤ i → i < 24 → Q i = false) (hne : ∃ r, r < 24 ∧ Q r = true) :
    Sp (fH_shuffledNext o h) (fun x => ∃ (r : Nat) (v : Int32), r < 24 ∧ Q r = true ∧ x = (nI r, hu h o 11 v)) := by
  have e16 : mkn 24 Q = mkn 16 Q := mkn_ext (by omega) (fun i hi => by
    rw [bt_mkn (by omega)]
    by_cases h1 : i < 16
    · simp [h1]; omega
    · by_cases h2 : i < 24
      · simp [h1, h16 i (by omega) h2]
      · simp [h1, h2])
  have hc0 : ¬ qcnt Q 16 = 0 := fun z => by
    obtain ⟨r, hr, hq⟩ := hne
    have := (qcnt_0 Q 16).mp z
    by_cases h1 : r < 16
    · rw [this r h1] at hq; cases hq
    · rw [h16 r (by omega) hr] at hq; cases hq
  have hcl := qcnt_le Q 16
  unfold fH_shuffledNext
  refine Sp_eq (bitCount_eq _ _) ?_
  have eb : bc (h o 7) = nI (qcnt Q 16) := by rw [h7, e16, bc_mkn16]
  dsimp only
  rw [eb]
  have hn0 : ¬ nI (qcnt Q 16) = 0 := fun z => hc0 ((nI_eq (b := 0) (by omega) (by decide)).mp z)
  refine Sp_neg hn0 (Sp_let (Sp_neg hn0 ?_))
  obtain ⟨v, hv⟩ : ∃ v, v = h o 11 * 1103515245 + 12345 := ⟨_, rfl⟩
  rw [← hv, hu_same]
  obtain ⟨s, hs, es⟩ := ushr9 v
  rw [es, pk_rem hs (by omega) (by omega)]
  have hlt : s % qcnt Q 16 < qcnt Q 16 := Nat.mod_lt _ (by omega)
  refine Sp_mono (shuf41 (o := o) (h := hu h o 11 v) (Q := Q) (by rw [hu_k _ _ _ _ (by omega)]; exact h7) 24 0 gfu _ (by omega) (by unfold gfu; omega) ?_) ?_
  · have : qcnt (fun i => Q (0 + i)) 24 = qcnt Q 24 := qcnt_congr 24 (fun i _ => by rw [Nat.zero_add])
    rw [this, qcnt_16 h16]; exact hlt
  · rintro x ⟨r, h1, h2, h3⟩
    exact ⟨r, v, h1, h2, h3⟩
theorem HP_o11 {h : gH} {o : Nat} (ho : gHall o) {E : qE} {P : qP} (v : Int32) (H : HP h o E P) : HP (hu h o 11 v) o E P := by
  obtain ⟨h1, h2, h3, h4, h5, h6, h7⟩ := H
  exact ⟨fun x hx => by rw [hu_o _ _ _ _ _ (by omega)]; exact h1 x hx, by rw [hu_o _ _ _ _ _ (by omega)]; exact h2, by rw [hu_k _ _ _ _ (by omega)]; exact h3, by rw [hu_k _ _ _ _ (by omega)]; exact h4, ⟨by rw [hu_k _ _ _ _ (by omega)]; exact h5.1, fun i a hi => by rw [hu_o _ _ _ _ _ (by omega), hu_o _ _ _ _ _ (by omega)]; exact h5.2 i a hi⟩, by rw [hu_k _ _ _ _ (by omega)]; exact h6, h7⟩
theorem runOneS {o : Nat} (ho : gHall o) {E : qE} {h : gH} {P : qP} (hX : Etx E) (hE : XE h E) (H : HP h o E P) (hI : PI E P) (hs : h o 10 = 1) (hne : ∃ r, r < 24 ∧ P.2.1 r = true) :
    Sp (fH_runOne o h) (fun p => ∃ r, r < 24 ∧ P.2.1 r = true ∧ HP p.2 o E (qone E r P)) := by
  have h17 := ho17 ho
  unfold fH_runOne
  rw [hs]
  refine Sp_neg (by decide) (Sp_bind (shuffled_sp H.2.2.1 (fun i h1 h2 => ?_) hne) ?_)
  · cases hq : P.2.1 i with
    | false => rfl
    | true => have := (hX i (hI.2.2 i h2 hq)).1; omega
  · rintro p - ⟨r, v, h1, h2, rfl⟩
    have hE2 : XE (hu h o 11 v) E := XE_hall hE (fun b k hb => by rw [hu_o _ _ _ _ _ (by omega)])
    refine Sp_mono (run18 ho hE2 (HP_o11 ho v H) hI h1 h2) ?_
    rintro p ⟨-, a, -⟩
    exact ⟨r, h1, h2, a⟩
theorem runAllS {o : Nat} (ho : gHall o) {E : qE} (hX : Etx E) (C : qP → Prop) (hC : ∀ P r, PI E P → PT P → r < 24 → P.2.1 r = true → C P → C (qone E r P)) : ∀ (k fu c : Nat) (h : gH) (P : qP), mu P ≤ k → k < fu → c + k < 1000000 → XE h E → HP h o E P → PI E P → C P → h o 10 = 1 →
    Sp (fH_runAll_2 o fu (nI c) h) (fun p => ∃ P', HP p.2 o E P' ∧ C P' ∧ PI E P' ∧ ∀ r, r < 24 → P'.2.1 r = false) := by
  have h17 := ho17 ho
  intro k
  induction k with
  | zero =>
    intro fu c h P hm hfu hc hE H hI hCP hs
    obtain ⟨fu, rfl⟩ : ∃ f, fu = f + 1 := ⟨fu - 1, by omega⟩
    unfold fH_runAll_2
    refine Sp_pos (nltT (show c < 1000000 by omega) (by decide)) ?_
    have h0 : h o 7 = 0 := by rw [H.2.2.1, mkn_zero (by omega)]; exact mu_0 (by omega)
    exact Sp_pos h0 (Sp_some ⟨P, H, hCP, hI, mu_0 (by omega)⟩)
  | succ k ih =>
    intro fu c h P hm hfu hc hE H hI hCP hs
    obtain ⟨fu, rfl⟩ : ∃ f, fu = f + 1 := ⟨fu - 1, by omega⟩
    unfold fH_runAll_2
    refine Sp_pos (nltT (show c < 1000000 by omega) (by decide)) ?_
    refine Sp_if (fun q => ?_) (fun q => ?_)
    · rw [H.2.2.1, mkn_zero (by omega)] at q
      exact Sp_some ⟨P, H, hCP, hI, q⟩
    · have hne : ∃ r, r < 24 ∧ P.2.1 r = true := by
        apply Classical.byContradiction
        intro z
        apply q
        rw [H.2.2.1, mkn_zero (by omega)]
        intro i hi
        cases hq : P.2.1 i with
        | false => rfl
        | true => exact absurd ⟨i, hi, hq⟩ z
      have hT : PT P := H.2.2.2.2.2.2
      refine Sp_bind (Sp_and (runOneS ho hX hE H hI hs hne) (fun _ e => fH_runOne_fr ho e)) ?_
      rintro p - ⟨⟨r, h1, h2, a⟩, fr⟩
      have hlt := mu_lt hI hT h1 h2
      have hE2 : XE p.2 E := XE_hall hE (fun b k hb => fr b k (by simp; omega) (by simp; omega))
      rw [nadd_l]
      exact ih fu (c + 1) p.2 _ (by omega) (by omega) (by omega) hE2 a (qone_PI hI hT h1 h2) (hC P r hI hT h1 h2 hCP) (by rw [fr o 10 (by simp) (by simp)]; exact hs)
/-- whatever the order: what failed fails, what is left is left -/
theorem shufAll {o : Nat} (ho : gHall o) {E : qE} (hX : Etx E) {h : gH} {P : qP} (hE : XE h E) (H : HP h o E P) (hI : PI E P) (hq0 : P.2.2.1 = false → ∀ r, r < 24 → Eact E r = true → P.2.1 r = true) (hs : h o 10 = 1) :
    Sp (fH_runAll o h) (fun p => ∃ P', HP p.2 o E P' ∧ P'.2.2.1 = (qiter E 2024 P).2.2.1 ∧ (P'.2.2.1 = false → ∀ u, u < 8 → ∀ v, v < 10 → P'.1 u v = (qiter E 2024 P).1 u v)) := by
  have hT : PT P := H.2.2.2.2.2.2
  unfold fH_runAll
  refine Sp_mono (runAllS ho hX (fun P' => ∀ C : qP → Prop, (∀ P r, PI E P → PT P → r < 24 → P.2.1 r = true → C P → C (qone E r P)) → C P → C P') (fun P' r hI hT hr hQ h C hC h0 => hC P' r hI hT hr hQ (h C hC h0)) 2024 gfu 0 h P (mu_le P) (by unfold gfu; omega) (by omega) hE H hI (fun C _ h0 => h0) hs) ?_
  rintro p ⟨P', a1, a2, a3, a4⟩
  have d2 := qiter_done E 2024 P hI hT (mu_le P)
  have := conf hX hI hT hq0 a2 (fun C hC h0 => iter_ind C hC 2024 P hI hT h0) a4 d2.2.2
  exact ⟨P', a1, this.1, this.2⟩

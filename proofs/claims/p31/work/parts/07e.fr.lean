theorem fS_least_4_fr {v0 : Int32}  : ∀ (n : Nat) (v2 : Int32) (v3 : Int32) (h : gH) (x : (Int32 × gH)), fS_least_4 v0 n v2 v3 h = some x → gfr [] [] h x.2 := by
  intro n
  induction n with
  | zero => intro v2 v3 h x  H; exact g0 H
  | succ n ih =>
    intro v2 v3 h x  H
    unfold fS_least_4 at H
    have hf := gfr_rf [] [] h
    by_cases q : v3 < (10 : Int32)
    · replace H := gift q H
      by_cases q : (v2 - ((v0 >>> (v3 &&& 31)) &&& (1 : Int32))) < (0 : Int32)
      · replace H := gift q H
        cases H
        exact hf
      · replace H := giff q H
        exact gfr_tr hf (ih _ _ _ _  H)
    · replace H := giff q H
      cases H
      exact hf
theorem fS_least_fr {v0 : Int32} {v1 : Int32} {h : gH} {x : (Int32 × gH)} (H : fS_least v0 v1 h = some x) : gfr [] [] h x.2 := by
  unfold fS_least at H
  have hf := gfr_rf [] [] h
  exact gfr_tr hf (fS_least_4_fr  gfu _ _ _ _  H)
theorem fS_keepSolution_12_fr  : ∀ (n : Nat) (v1 : Int32) (h : gH) (x : gH), fS_keepSolution_12  n v1 h = some x → gfr [43] [(38, 13)] h x := by
  intro n
  induction n with
  | zero => intro v1 h x  H; exact g0 H
  | succ n ih =>
    intro v1 h x  H
    unfold fS_keepSolution_12 at H
    have hf := gfr_rf [43] [(38, 13)] h
    by_cases q : v1 < (8 : Int32)
    · replace H := gift q H
      obtain ⟨b3, H⟩ := ggi H
      have b3 := gin_in b3
      obtain ⟨p4, e5, H⟩ := gbi H
      replace hf := gfr_tr hf (gfr_w (fS_least_fr  e5) gss_nil gss_nil)
      obtain ⟨b6, H⟩ := ggi H
      have b6 := gin_in b6
      obtain ⟨h7, e8, H⟩ := glei H
      replace hf := gfr_e (gfr_a hf (gme 0 rfl)) e8
      exact gfr_tr hf (ih _ _ _  H)
    · replace H := giff q H
      cases H
      exact hf
theorem fS_keepSolution_fr {h : gH} {x : gH} (H : fS_keepSolution  h = some x) : gfr [43] [(38, 13)] h x := by
  unfold fS_keepSolution at H
  have hf := gfr_rf [43] [(38, 13)] h
  obtain ⟨h1, e2, H⟩ := glei H
  replace hf := gfr_e (gfr_f hf (gme 0 rfl)) e2
  exact gfr_tr hf (fS_keepSolution_12_fr  gfu _ _ _  H)
theorem fS_learn_25_fr {v1 : Int32}  : ∀ (n : Nat) (v2 : Int32) (v3 : Int32) (h : gH) (x : (Int32 × gH)), fS_learn_25 v1 n v2 v3 h = some x → gfr [42, 3, 4, 5, 8] [(38, 12)] h x.2 := by
  intro n
  induction n with
  | zero => intro v2 v3 h x  H; exact g0 H
  | succ n ih =>
    intro v2 v3 h x  H
    unfold fS_learn_25 at H
    have hf := gfr_rf [42, 3, 4, 5, 8] [(38, 12)] h
    by_cases q : v3 < (h 38 9)
    · replace H := gift q H
      by_cases q : ((v1 >>> (v3 &&& 31)) &&& (1 : Int32)) = (1 : Int32)
      · replace H := gift q H
        obtain ⟨b5, H⟩ := ggi H
        have b5 := gin_in b5
        obtain ⟨b6, H⟩ := ggi H
        have b6 := gin_in b6
        obtain ⟨b7, H⟩ := ggi H
        have b7 := gin_in b7
        obtain ⟨b8, H⟩ := ggi H
        have b8 := gin_in b8
        obtain ⟨h9, e10, H⟩ := glei H
        replace hf := gfr_e (gfr_a hf (gme 0 rfl)) e10
        exact gfr_tr hf (ih _ _ _ _  H)
      · replace H := giff q H
        exact gfr_tr hf (ih _ _ _ _  H)
    · replace H := giff q H
      obtain ⟨h1, e2, H⟩ := glei H
      replace hf := gfr_e (gfr_f hf (gme 0 rfl)) e2
      obtain ⟨p3, e4, H⟩ := gbi H
      replace hf := gfr_tr hf (gfr_w (fR_learn_fr  e4) (gss_cons (gme 1 rfl) (gss_cons (gme 2 rfl) (gss_cons (gme 3 rfl) (gss_cons (gme 4 rfl) gss_nil)))) gss_nil)
      cases H
      exact hf
theorem fS_learn_4_fr {v1 : Int32} {v2 : Int32}  : ∀ (n : Nat) (v3 : Int32) (h : gH) (x : (Int32 × gH)), fS_learn_4 v1 v2 n v3 h = some x → gfr [42, 3, 4, 5, 8] [(38, 12)] h x.2 := by
  intro n
  induction n with
  | zero => intro v3 h x  H; exact g0 H
  | succ n ih =>
    intro v3 h x  H
    unfold fS_learn_4 at H
    have hf := gfr_rf [42, 3, 4, 5, 8] [(38, 12)] h
    by_cases q : v3 < (8 : Int32)
    · replace H := gift q H
      obtain ⟨b11, H⟩ := ggi H
      have b11 := gin_in b11
      obtain ⟨h12, e13, H⟩ := glei H
      replace hf := gfr_e (gfr_a hf (gme 0 rfl)) e13
      exact gfr_tr hf (ih _ _ _  H)
    · replace H := giff q H
      exact gfr_tr hf (fS_learn_25_fr  gfu _ _ _ _  H)
theorem fS_learn_fr {v1 : Int32} {h : gH} {x : (Int32 × gH)} (H : fS_learn v1 h = some x) : gfr [42, 3, 4, 5, 8] [(38, 12)] h x.2 := by
  unfold fS_learn at H
  have hf := gfr_rf [42, 3, 4, 5, 8] [(38, 12)] h
  exact gfr_tr hf (fS_learn_4_fr  gfu _ _ _  H)
theorem fS_startTrial_27_fr {v1 : Int32}  : ∀ (n : Nat) (v2 : Int32) (h : gH) (x : gH), fS_startTrial_27 v1 n v2 h = some x → gfr [34, 36, 37] [(33, 5), (33, 6), (33, 7), (33, 9)] h x := by
  intro n
  induction n with
  | zero => intro v2 h x  H; exact g0 H
  | succ n ih =>
    intro v2 h x  H
    unfold fS_startTrial_27 at H
    have hf := gfr_rf [34, 36, 37] [(33, 5), (33, 6), (33, 7), (33, 9)] h
    by_cases q : v2 < (h 38 9)
    · replace H := gift q H
      by_cases q : (h 33 9) = (0 : Int32)
      · replace H := gift q H
        by_cases q : ((v1 >>> (v2 &&& 31)) &&& (1 : Int32)) = (1 : Int32)
        · replace H := gift q H
          obtain ⟨b7, H⟩ := ggi H
          have b7 := gin_in b7
          obtain ⟨b8, H⟩ := ggi H
          have b8 := gin_in b8
          obtain ⟨p9, e10, H⟩ := gbi H
          replace hf := gfr_tr hf (gfr_w (fH_narrow_fr gH33 e10) (gss_cons (gme 0 rfl) (gss_cons (gme 1 rfl) (gss_cons (gme 2 rfl) gss_nil))) (gss_cons (gme 0 rfl) (gss_cons (gme 3 rfl) (gss_cons (gme 2 rfl) gss_nil))))
          exact gfr_tr hf (ih _ _ _  H)
        · replace H := giff q H
          exact gfr_tr hf (ih _ _ _  H)
      · replace H := giff q H
        cases H
        exact hf
    · replace H := giff q H
      cases H
      exact hf
theorem fS_startTrial_fr {v1 : Int32} {h : gH} {x : gH} (H : fS_startTrial v1 h = some x) : gfr [34, 36, 37] [(33, 5), (33, 6), (33, 7), (33, 9)] h x := by
  unfold fS_startTrial at H
  have hf := gfr_rf [34, 36, 37] [(33, 5), (33, 6), (33, 7), (33, 9)] h
  obtain ⟨p1, e2, H⟩ := gbi H
  replace hf := gfr_tr hf (gfr_w (fP_all_fr gP22 e2) gss_nil gss_nil)
  obtain ⟨p3, e4, H⟩ := gbi H
  replace hf := gfr_tr hf (gfr_w (fR_all_fr  e4) gss_nil gss_nil)
  obtain ⟨h5, e6, H⟩ := gbi H
  replace hf := gfr_tr hf (gfr_w (fH_start_fr gH33 e6) (gss_cons (gme 0 rfl) (gss_cons (gme 1 rfl) (gss_cons (gme 2 rfl) gss_nil))) (gss_cons (gme 0 rfl) (gss_cons (gme 1 rfl) (gss_cons (gme 2 rfl) (gss_cons (gme 3 rfl) gss_nil)))))
  exact gfr_tr hf (fS_startTrial_27_fr  gfu _ _ _  H)
theorem fS_learnFromTries_47_fr  : ∀ (n : Nat) (v1 : Int32) (v2 : Int32) (h : gH) (x : (Int32 × gH)), fS_learnFromTries_47  n v1 v2 h = some x → gfr [34, 36, 37, 35, 42, 3, 4, 5, 8] [(33, 5), (33, 6), (33, 7), (33, 9), (33, 11), (33, 8), (38, 12)] h x.2 := by
  intro n
  induction n with
  | zero => intro v1 v2 h x  H; exact g0 H
  | succ n ih =>
    intro v1 v2 h x  H
    unfold fS_learnFromTries_47 at H
    have hf := gfr_rf [34, 36, 37, 35, 42, 3, 4, 5, 8] [(33, 5), (33, 6), (33, 7), (33, 9), (33, 11), (33, 8), (38, 12)] h
    by_cases q : v2 < (h 38 9)
    · replace H := gift q H
      obtain ⟨h7, e8, H⟩ := gbi H
      replace hf := gfr_tr hf (gfr_w (fS_startTrial_fr  e8) (gss_cons (gme 0 rfl) (gss_cons (gme 1 rfl) (gss_cons (gme 2 rfl) gss_nil))) (gss_cons (gme 0 rfl) (gss_cons (gme 1 rfl) (gss_cons (gme 2 rfl) (gss_cons (gme 3 rfl) gss_nil)))))
      obtain ⟨p9, e10, H⟩ := gbi H
      replace hf := gfr_tr hf (gfr_w (fH_runAll_fr gH33 e10) (gss_cons (gme 3 rfl) (gss_cons (gme 0 rfl) (gss_cons (gme 1 rfl) (gss_cons (gme 2 rfl) gss_nil)))) (gss_cons (gme 4 rfl) (gss_cons (gme 2 rfl) (gss_cons (gme 5 rfl) (gss_cons (gme 0 rfl) (gss_cons (gme 3 rfl) gss_nil))))))
      by_cases q : (p9.2 33 9) = (0 : Int32)
      · replace H := gift q H
        exact gfr_tr hf (ih _ _ _ _  H)
      · replace H := giff q H
        exact gfr_tr hf (ih _ _ _ _  H)
    · replace H := giff q H
      obtain ⟨p5, e6, H⟩ := gbi H
      replace hf := gfr_tr hf (gfr_w (fS_learn_fr  e6) (gss_cons (gme 4 rfl) (gss_cons (gme 5 rfl) (gss_cons (gme 6 rfl) (gss_cons (gme 7 rfl) (gss_cons (gme 8 rfl) gss_nil))))) (gss_cons (gme 6 rfl) gss_nil))
      cases H
      exact hf
theorem fS_learnFromTries_fr {h : gH} {x : (Int32 × gH)} (H : fS_learnFromTries  h = some x) : gfr [34, 36, 37, 35, 42, 3, 4, 5, 8] [(33, 5), (33, 6), (33, 7), (33, 9), (33, 11), (33, 8), (38, 12)] h x.2 := by
  unfold fS_learnFromTries at H
  have hf := gfr_rf [34, 36, 37, 35, 42, 3, 4, 5, 8] [(33, 5), (33, 6), (33, 7), (33, 9), (33, 11), (33, 8), (38, 12)] h
  by_cases q : (h 38 12) < (8 : Int32)
  · replace H := gift q H
    obtain ⟨h1, e2, H⟩ := gbi H
    replace hf := gfr_tr hf (gfr_w (fS_startTrial_fr  e2) (gss_cons (gme 0 rfl) (gss_cons (gme 1 rfl) (gss_cons (gme 2 rfl) gss_nil))) (gss_cons (gme 0 rfl) (gss_cons (gme 1 rfl) (gss_cons (gme 2 rfl) (gss_cons (gme 3 rfl) gss_nil)))))
    obtain ⟨p3, e4, H⟩ := gbi H
    replace hf := gfr_tr hf (gfr_w (fH_runAll_fr gH33 e4) (gss_cons (gme 3 rfl) (gss_cons (gme 0 rfl) (gss_cons (gme 1 rfl) (gss_cons (gme 2 rfl) gss_nil)))) (gss_cons (gme 4 rfl) (gss_cons (gme 2 rfl) (gss_cons (gme 5 rfl) (gss_cons (gme 0 rfl) (gss_cons (gme 3 rfl) gss_nil))))))
    by_cases q : (p3.2 33 9) = (0 : Int32)
    · replace H := gift q H
      cases H
      exact hf
    · replace H := giff q H
      exact gfr_tr hf (fS_learnFromTries_47_fr  gfu _ _ _ _  H)
  · replace H := giff q H
    cases H
    exact hf
theorem fS_worthOf_fr {v1 : Int32} {v2 : Int32} {h : gH} {x : (Int32 × gH)} (H : fS_worthOf v1 v2 h = some x) : gfr [] [] h x.2 := by
  unfold fS_worthOf at H
  have hf := gfr_rf [] [] h
  by_cases q0 : v1 = (1 : Int32)
  · replace H := gift q0 H
    obtain ⟨b1, H⟩ := ggi H
    have b1 := gin_in b1
    obtain ⟨p2, e3, H⟩ := gbi H
    replace hf := gfr_tr hf (gfr_w (fJ_bitCount_fr  e3) gss_nil gss_nil)
    cases H
    exact hf
  replace H := giff q0 H
  by_cases q1 : v1 = (2 : Int32)
  · replace H := gift q1 H
    obtain ⟨b4, H⟩ := ggi H
    have b4 := gin_in b4
    obtain ⟨p5, e6, H⟩ := gbi H
    replace hf := gfr_tr hf (gfr_w (fJ_bitCount_fr  e6) gss_nil gss_nil)
    cases H
    exact hf
  replace H := giff q1 H
  by_cases q2 : v1 = (3 : Int32)
  · replace H := gift q2 H
    obtain ⟨b7, H⟩ := ggi H
    have b7 := gin_in b7
    obtain ⟨p8, e9, H⟩ := gbi H
    replace hf := gfr_tr hf (gfr_w (fR_all_fr  e9) gss_nil gss_nil)
    obtain ⟨p10, e11, H⟩ := gbi H
    replace hf := gfr_tr hf (gfr_w (fJ_bitCount_fr  e11) gss_nil gss_nil)
    cases H
    exact hf
  replace H := giff q2 H
  cases H
  exact hf
theorem fS_chosen_49_fr {k7 : Int32 → Int32 → Int32 → gH → Option (Int32 × gH)} {v1 : Int32} {v4 : Int32} {v5 : Int32} (hk7f : ∀ (u2 : Int32) (u3 : Int32) (u4 : Int32) (h : gH) (x : (Int32 × gH)), k7 u2 u3 u4 h = some x → gfr [] [] h x.2) {h : gH} {x : (Int32 × gH)} (H : fS_chosen_49 k7 v1 v4 v5  h = some x) : gfr [] [] h x.2 := by
  unfold fS_chosen_49 at H
  have hf := gfr_rf [] [] h
  exact gfr_tr hf (hk7f _ _ _ _ _  H)
theorem fS_chosen_7_fr {v1 : Int32}  : ∀ (n : Nat) (v2 : Int32) (v3 : Int32) (v4 : Int32) (h : gH) (x : (Int32 × gH)), fS_chosen_7 v1 n v2 v3 v4 h = some x → gfr [] [] h x.2 := by
  intro n
  induction n with
  | zero => intro v2 v3 v4 h x  H; exact g0 H
  | succ n ih =>
    intro v2 v3 v4 h x  H
    unfold fS_chosen_7 at H
    have hf := gfr_rf [] [] h
    by_cases q : v4 < (8 : Int32)
    · replace H := gift q H
      obtain ⟨p1, e2, H⟩ := gbi H
      replace hf := gfr_tr hf (gfr_w (fH_isSettled_fr gH28 e2) gss_nil gss_nil)
      by_cases q : p1.1 = (0 : Int32)
      · replace H := gift q H
        obtain ⟨p3, e4, H⟩ := gbi H
        replace hf := gfr_tr hf (gfr_w (fS_worthOf_fr  e4) gss_nil gss_nil)
        by_cases q : v2 = (-1 : Int32)
        · replace H := gift q H
          exact gfr_tr hf (fS_chosen_49_fr ih  H)
        · replace H := giff q H
          by_cases q : v3 < p3.1
          · replace H := gift q H
            exact gfr_tr hf (fS_chosen_49_fr ih  H)
          · replace H := giff q H
            exact gfr_tr hf (ih _ _ _ _ _  H)
      · replace H := giff q H
        exact gfr_tr hf (ih _ _ _ _ _  H)
    · replace H := giff q H
      cases H
      exact hf
theorem fS_chosen_fr {v1 : Int32} {h : gH} {x : (Int32 × gH)} (H : fS_chosen v1 h = some x) : gfr [] [] h x.2 := by
  unfold fS_chosen at H
  have hf := gfr_rf [] [] h
  exact gfr_tr hf (fS_chosen_7_fr  gfu _ _ _ _ _  H)
theorem fS_picked_fr {v0 : Int32} {v1 : Int32} {h : gH} {x : (Int32 × gH)} (H : fS_picked v0 v1 h = some x) : gfr [] [] h x.2 := by
  unfold fS_picked at H
  have hf := gfr_rf [] [] h
  obtain ⟨p1, e2, H⟩ := gbi H
  replace hf := gfr_tr hf (gfr_w (fJ_bitCount_fr  e2) gss_nil gss_nil)
  by_cases q0 : v1 = (1 : Int32)
  · replace H := gift q0 H
    obtain ⟨p3, e4, H⟩ := gbi H
    replace hf := gfr_tr hf (gfr_w (fS_least_fr  e4) gss_nil gss_nil)
    cases H
    exact hf
  replace H := giff q0 H
  by_cases q1 : v1 = (2 : Int32)
  · replace H := gift q1 H
    obtain ⟨p5, e6, H⟩ := gbi H
    replace hf := gfr_tr hf (gfr_w (fS_least_fr  e6) gss_nil gss_nil)
    cases H
    exact hf
  replace H := giff q1 H
  obtain ⟨p7, e8, H⟩ := gbi H
  replace hf := gfr_tr hf (gfr_w (fS_least_fr  e8) gss_nil gss_nil)
  cases H
  exact hf
theorem fS_tryOne_fr {v1 : Int32} {v2 : Int32} {h : gH} {x : (Int32 × gH)} (H : fS_tryOne v1 v2 h = some x) : gfr [39, 40, 41, 29, 31, 32] [(38, 9), (38, 10), (28, 5), (28, 9), (28, 7)] h x.2 := by
  unfold fS_tryOne at H
  have hf := gfr_rf [39, 40, 41, 29, 31, 32] [(38, 9), (38, 10), (28, 5), (28, 9), (28, 7)] h
  obtain ⟨p1, e2, H⟩ := gbi H
  replace hf := gfr_tr hf (gfr_w (fS_chosen_fr  e2) gss_nil gss_nil)
  by_cases q : p1.1 = (-1 : Int32)
  · replace H := gift q H
    cases H
    exact hf
  · replace H := giff q H
    by_cases q : (p1.2 38 9) < (8 : Int32)
    · replace H := gift q H
      obtain ⟨b3, H⟩ := ggi H
      have b3 := gin_in b3
      obtain ⟨p4, e5, H⟩ := gbi H
      replace hf := gfr_tr hf (gfr_w (fS_picked_fr  e5) gss_nil gss_nil)
      obtain ⟨b6, H⟩ := ggi H
      have b6 := gin_in b6
      obtain ⟨h7, e8, H⟩ := glei H
      replace hf := gfr_e (gfr_a hf (gme 0 rfl)) e8
      obtain ⟨b9, H⟩ := ggi H
      have b9 := gin_in b9
      obtain ⟨h10, e11, H⟩ := glei H
      replace hf := gfr_e (gfr_a hf (gme 1 rfl)) e11
      obtain ⟨b12, H⟩ := ggi H
      have b12 := gin_in b12
      obtain ⟨h13, e14, H⟩ := glei H
      replace hf := gfr_e (gfr_a hf (gme 2 rfl)) e14
      obtain ⟨h15, e16, H⟩ := glei H
      replace hf := gfr_e (gfr_f hf (gme 0 rfl)) e16
      obtain ⟨h17, e18, H⟩ := glei H
      replace hf := gfr_e (gfr_f hf (gme 1 rfl)) e18
      obtain ⟨p19, e20, H⟩ := gbi H
      replace hf := gfr_tr hf (gfr_w (fH_narrow_fr gH28 e20) (gss_cons (gme 3 rfl) (gss_cons (gme 4 rfl) (gss_cons (gme 5 rfl) gss_nil))) (gss_cons (gme 2 rfl) (gss_cons (gme 3 rfl) (gss_cons (gme 4 rfl) gss_nil))))
      cases H
      exact hf
    · replace H := giff q H
      cases H
      exact hf
theorem fS_turnBack_fr {v1 : Int32} {h : gH} {x : (Int32 × gH)} (H : fS_turnBack v1 h = some x) : gfr [29, 31, 32] [(38, 9), (28, 5), (28, 7), (28, 9), (28, 6)] h x.2 := by
  unfold fS_turnBack at H
  have hf := gfr_rf [29, 31, 32] [(38, 9), (28, 5), (28, 7), (28, 9), (28, 6)] h
  by_cases q : (0 : Int32) < (h 38 9)
  · replace H := gift q H
    obtain ⟨h1, e2, H⟩ := glei H
    replace hf := gfr_e (gfr_f hf (gme 0 rfl)) e2
    obtain ⟨b3, H⟩ := ggi H
    have b3 := gin_in b3
    obtain ⟨h4, e5, H⟩ := gbi H
    replace hf := gfr_tr hf (gfr_w (fH_takeBack_fr gH28 e5) (gss_cons (gme 0 rfl) gss_nil) (gss_cons (gme 1 rfl) (gss_cons (gme 2 rfl) (gss_cons (gme 3 rfl) gss_nil))))
    obtain ⟨b6, H⟩ := ggi H
    have b6 := gin_in b6
    obtain ⟨b7, H⟩ := ggi H
    have b7 := gin_in b7
    obtain ⟨b8, H⟩ := ggi H
    have b8 := gin_in b8
    obtain ⟨p9, e10, H⟩ := gbi H
    replace hf := gfr_tr hf (gfr_w (fH_narrow_fr gH28 e10) (gss_cons (gme 0 rfl) (gss_cons (gme 1 rfl) (gss_cons (gme 2 rfl) gss_nil))) (gss_cons (gme 1 rfl) (gss_cons (gme 3 rfl) (gss_cons (gme 2 rfl) gss_nil))))
    by_cases q : v1 = (-1 : Int32)
    · replace H := gift q H
      cases H
      exact hf
    · replace H := giff q H
      obtain ⟨h11, e12, H⟩ := glei H
      replace hf := gfr_e (gfr_f hf (gme 4 rfl)) e12
      obtain ⟨h13, e14, H⟩ := gbi H
      replace hf := gfr_tr hf (gfr_w (fH_wake_fr gH28 e14) gss_nil (gss_cons (gme 2 rfl) gss_nil))
      cases H
      exact hf
  · replace H := giff q H
    cases H
    exact hf
theorem fS_go_146_fr {k39 : Int32 → Int32 → Int32 → gH → Option gH} {v1 : Int32} {v2 : Int32} {v3 : Int32} {v4 : Int32} {v5 : Int32} {v8 : Int32} {s0 : Int32} (hk39f : ∀ (u6 : Int32) (u7 : Int32) (u8 : Int32) (h : gH) (x : gH), k39 u6 u7 u8 h = some x → gfr [30, 29, 31, 32, 34, 36, 37, 35, 42, 3, 4, 5, 8, 43, 39, 40, 41] [(38, 9), (38, 10), (38, 11), (38, 12), (38, 13), (38, 14), (28, 11), (28, 7), (28, 8), (28, 5), (28, 9), (33, 5), (33, 6), (33, 7), (33, 9), (33, 11), (33, 8), (28, 6)] h x) {h : gH} {x : gH} (H : fS_go_146 k39 v1 v2 v3 v4 v5 v8 s0 h = some x) : gfr [30, 29, 31, 32, 34, 36, 37, 35, 42, 3, 4, 5, 8, 43, 39, 40, 41] [(38, 9), (38, 10), (38, 11), (38, 12), (38, 13), (38, 14), (28, 11), (28, 7), (28, 8), (28, 5), (28, 9), (33, 5), (33, 6), (33, 7), (33, 9), (33, 11), (33, 8), (28, 6)] h x := by
  unfold fS_go_146 at H
  have hf := gfr_rf [30, 29, 31, 32, 34, 36, 37, 35, 42, 3, 4, 5, 8, 43, 39, 40, 41] [(38, 9), (38, 10), (38, 11), (38, 12), (38, 13), (38, 14), (28, 11), (28, 7), (28, 8), (28, 5), (28, 9), (33, 5), (33, 6), (33, 7), (33, 9), (33, 11), (33, 8), (28, 6)] h
  exact gfr_tr hf (hk39f _ _ _ _ _  H)
theorem fS_go_145_fr {k39 : Int32 → Int32 → Int32 → gH → Option gH} {v1 : Int32} {v2 : Int32} {v3 : Int32} {v4 : Int32} {v5 : Int32} {v8 : Int32} (hk39f : ∀ (u6 : Int32) (u7 : Int32) (u8 : Int32) (h : gH) (x : gH), k39 u6 u7 u8 h = some x → gfr [30, 29, 31, 32, 34, 36, 37, 35, 42, 3, 4, 5, 8, 43, 39, 40, 41] [(38, 9), (38, 10), (38, 11), (38, 12), (38, 13), (38, 14), (28, 11), (28, 7), (28, 8), (28, 5), (28, 9), (33, 5), (33, 6), (33, 7), (33, 9), (33, 11), (33, 8), (28, 6)] h x) {h : gH} {x : gH} (H : fS_go_145 k39 v1 v2 v3 v4 v5 v8  h = some x) : gfr [30, 29, 31, 32, 34, 36, 37, 35, 42, 3, 4, 5, 8, 43, 39, 40, 41] [(38, 9), (38, 10), (38, 11), (38, 12), (38, 13), (38, 14), (28, 11), (28, 7), (28, 8), (28, 5), (28, 9), (33, 5), (33, 6), (33, 7), (33, 9), (33, 11), (33, 8), (28, 6)] h x := by
  unfold fS_go_145 at H
  have hf := gfr_rf [30, 29, 31, 32, 34, 36, 37, 35, 42, 3, 4, 5, 8, 43, 39, 40, 41] [(38, 9), (38, 10), (38, 11), (38, 12), (38, 13), (38, 14), (28, 11), (28, 7), (28, 8), (28, 5), (28, 9), (33, 5), (33, 6), (33, 7), (33, 9), (33, 11), (33, 8), (28, 6)] h
  exact gfr_tr hf (fS_go_146_fr hk39f  H)
theorem fS_go_96_fr {k39 : Int32 → Int32 → Int32 → gH → Option gH} {v1 : Int32} {v2 : Int32} {v3 : Int32} {v4 : Int32} {v5 : Int32} {v8 : Int32} {s0 : Int32} (hk39f : ∀ (u6 : Int32) (u7 : Int32) (u8 : Int32) (h : gH) (x : gH), k39 u6 u7 u8 h = some x → gfr [30, 29, 31, 32, 34, 36, 37, 35, 42, 3, 4, 5, 8, 43, 39, 40, 41] [(38, 9), (38, 10), (38, 11), (38, 12), (38, 13), (38, 14), (28, 11), (28, 7), (28, 8), (28, 5), (28, 9), (33, 5), (33, 6), (33, 7), (33, 9), (33, 11), (33, 8), (28, 6)] h x) {h : gH} {x : gH} (H : fS_go_96 k39 v1 v2 v3 v4 v5 v8 s0 h = some x) : gfr [30, 29, 31, 32, 34, 36, 37, 35, 42, 3, 4, 5, 8, 43, 39, 40, 41] [(38, 9), (38, 10), (38, 11), (38, 12), (38, 13), (38, 14), (28, 11), (28, 7), (28, 8), (28, 5), (28, 9), (33, 5), (33, 6), (33, 7), (33, 9), (33, 11), (33, 8), (28, 6)] h x := by
  unfold fS_go_96 at H
  have hf := gfr_rf [30, 29, 31, 32, 34, 36, 37, 35, 42, 3, 4, 5, 8, 43, 39, 40, 41] [(38, 9), (38, 10), (38, 11), (38, 12), (38, 13), (38, 14), (28, 11), (28, 7), (28, 8), (28, 5), (28, 9), (33, 5), (33, 6), (33, 7), (33, 9), (33, 11), (33, 8), (28, 6)] h
  obtain ⟨p27, e28, H⟩ := gbi H
  replace hf := gfr_tr hf (gfr_w (fS_turnBack_fr  e28) (gss_cons (gme 1 rfl) (gss_cons (gme 2 rfl) (gss_cons (gme 3 rfl) gss_nil))) (gss_cons (gme 0 rfl) (gss_cons (gme 9 rfl) (gss_cons (gme 7 rfl) (gss_cons (gme 10 rfl) (gss_cons (gme 17 rfl) gss_nil))))))
  exact gfr_tr hf (hk39f _ _ _ _ _  H)
theorem fS_go_95_fr {k39 : Int32 → Int32 → Int32 → gH → Option gH} {v1 : Int32} {v2 : Int32} {v3 : Int32} {v4 : Int32} {v5 : Int32} {v8 : Int32} (hk39f : ∀ (u6 : Int32) (u7 : Int32) (u8 : Int32) (h : gH) (x : gH), k39 u6 u7 u8 h = some x → gfr [30, 29, 31, 32, 34, 36, 37, 35, 42, 3, 4, 5, 8, 43, 39, 40, 41] [(38, 9), (38, 10), (38, 11), (38, 12), (38, 13), (38, 14), (28, 11), (28, 7), (28, 8), (28, 5), (28, 9), (33, 5), (33, 6), (33, 7), (33, 9), (33, 11), (33, 8), (28, 6)] h x) {h : gH} {x : gH} (H : fS_go_95 k39 v1 v2 v3 v4 v5 v8  h = some x) : gfr [30, 29, 31, 32, 34, 36, 37, 35, 42, 3, 4, 5, 8, 43, 39, 40, 41] [(38, 9), (38, 10), (38, 11), (38, 12), (38, 13), (38, 14), (28, 11), (28, 7), (28, 8), (28, 5), (28, 9), (33, 5), (33, 6), (33, 7), (33, 9), (33, 11), (33, 8), (28, 6)] h x := by
  unfold fS_go_95 at H
  have hf := gfr_rf [30, 29, 31, 32, 34, 36, 37, 35, 42, 3, 4, 5, 8, 43, 39, 40, 41] [(38, 9), (38, 10), (38, 11), (38, 12), (38, 13), (38, 14), (28, 11), (28, 7), (28, 8), (28, 5), (28, 9), (33, 5), (33, 6), (33, 7), (33, 9), (33, 11), (33, 8), (28, 6)] h
  exact gfr_tr hf (fS_go_96_fr hk39f  H)
theorem fS_go_39_fr {v1 : Int32} {v2 : Int32} {v3 : Int32} {v4 : Int32} {v5 : Int32}  : ∀ (n : Nat) (v6 : Int32) (v7 : Int32) (v8 : Int32) (h : gH) (x : gH), fS_go_39 v1 v2 v3 v4 v5 n v6 v7 v8 h = some x → gfr [30, 29, 31, 32, 34, 36, 37, 35, 42, 3, 4, 5, 8, 43, 39, 40, 41] [(38, 9), (38, 10), (38, 11), (38, 12), (38, 13), (38, 14), (28, 11), (28, 7), (28, 8), (28, 5), (28, 9), (33, 5), (33, 6), (33, 7), (33, 9), (33, 11), (33, 8), (28, 6)] h x := by
  intro n
  induction n with
  | zero => intro v6 v7 v8 h x  H; exact g0 H
  | succ n ih =>
    intro v6 v7 v8 h x  H
    unfold fS_go_39 at H
    have hf := gfr_rf [30, 29, 31, 32, 34, 36, 37, 35, 42, 3, 4, 5, 8, 43, 39, 40, 41] [(38, 9), (38, 10), (38, 11), (38, 12), (38, 13), (38, 14), (28, 11), (28, 7), (28, 8), (28, 5), (28, 9), (33, 5), (33, 6), (33, 7), (33, 9), (33, 11), (33, 8), (28, 6)] h
    by_cases q : v8 < (1000000 : Int32)
    · replace H := gift q H
      by_cases q : v7 = (0 : Int32)
      · replace H := gift q H
        cases H
        exact hf
      · replace H := giff q H
        obtain ⟨p13, e14, H⟩ := gbi H
        replace hf := gfr_tr hf (gfr_w (fH_runAll_fr gH28 e14) (gss_cons (gme 0 rfl) (gss_cons (gme 1 rfl) (gss_cons (gme 2 rfl) (gss_cons (gme 3 rfl) gss_nil)))) (gss_cons (gme 6 rfl) (gss_cons (gme 7 rfl) (gss_cons (gme 8 rfl) (gss_cons (gme 9 rfl) (gss_cons (gme 10 rfl) gss_nil))))))
        by_cases q : (p13.2 28 9) = (0 : Int32)
        · replace H := gift q H
          obtain ⟨p15, e16, H⟩ := gbi H
          replace hf := gfr_tr hf (gfr_w (fH_howManySettled_fr gH28 e16) gss_nil gss_nil)
          by_cases q : p15.1 = (8 : Int32)
          · replace H := gift q H
            obtain ⟨h21, e22, H⟩ := gbi H
            replace hf := gfr_tr hf (gfr_w (fS_keepSolution_fr  e22) (gss_cons (gme 13 rfl) gss_nil) (gss_cons (gme 4 rfl) gss_nil))
            by_cases q : v5 = (0 : Int32)
            · replace H := gift q H
              exact gfr_tr hf (fS_go_145_fr ih  H)
            · replace H := giff q H
              obtain ⟨p23, e24, H⟩ := gbi H
              replace hf := gfr_tr hf (gfr_w (fS_turnBack_fr  e24) (gss_cons (gme 1 rfl) (gss_cons (gme 2 rfl) (gss_cons (gme 3 rfl) gss_nil))) (gss_cons (gme 0 rfl) (gss_cons (gme 9 rfl) (gss_cons (gme 7 rfl) (gss_cons (gme 10 rfl) (gss_cons (gme 17 rfl) gss_nil))))))
              by_cases q : p23.1 = (0 : Int32)
              · replace H := gift q H
                exact gfr_tr hf (fS_go_145_fr ih  H)
              · replace H := giff q H
                exact gfr_tr hf (fS_go_146_fr ih  H)
          · replace H := giff q H
            by_cases q : (p15.2 38 10) < v4
            · replace H := gift q H
              obtain ⟨p17, e18, H⟩ := gbi H
              replace hf := gfr_tr hf (gfr_w (fS_tryOne_fr  e18) (gss_cons (gme 14 rfl) (gss_cons (gme 15 rfl) (gss_cons (gme 16 rfl) (gss_cons (gme 1 rfl) (gss_cons (gme 2 rfl) (gss_cons (gme 3 rfl) gss_nil)))))) (gss_cons (gme 0 rfl) (gss_cons (gme 1 rfl) (gss_cons (gme 9 rfl) (gss_cons (gme 10 rfl) (gss_cons (gme 7 rfl) gss_nil))))))
              exact gfr_tr hf (ih _ _ _ _ _  H)
            · replace H := giff q H
              obtain ⟨h19, e20, H⟩ := glei H
              replace hf := gfr_e (gfr_f hf (gme 5 rfl)) e20
              exact gfr_tr hf (ih _ _ _ _ _  H)
        · replace H := giff q H
          obtain ⟨h25, e26, H⟩ := glei H
          replace hf := gfr_e (gfr_f hf (gme 2 rfl)) e26
          by_cases q : v3 = (0 : Int32)
          · replace H := gift q H
            exact gfr_tr hf (fS_go_95_fr ih  H)
          · replace H := giff q H
            by_cases q : v6 = (0 : Int32)
            · replace H := gift q H
              exact gfr_tr hf (fS_go_95_fr ih  H)
            · replace H := giff q H
              obtain ⟨p29, e30, H⟩ := gbi H
              replace hf := gfr_tr hf (gfr_w (fS_learnFromTries_fr  e30) (gss_cons (gme 4 rfl) (gss_cons (gme 5 rfl) (gss_cons (gme 6 rfl) (gss_cons (gme 7 rfl) (gss_cons (gme 8 rfl) (gss_cons (gme 9 rfl) (gss_cons (gme 10 rfl) (gss_cons (gme 11 rfl) (gss_cons (gme 12 rfl) gss_nil))))))))) (gss_cons (gme 11 rfl) (gss_cons (gme 12 rfl) (gss_cons (gme 13 rfl) (gss_cons (gme 14 rfl) (gss_cons (gme 15 rfl) (gss_cons (gme 16 rfl) (gss_cons (gme 3 rfl) gss_nil))))))))
              exact gfr_tr hf (fS_go_96_fr ih  H)
    · replace H := giff q H
      cases H
      exact hf
theorem fS_go_fr {v1 : Int32} {v2 : Int32} {v3 : Int32} {v4 : Int32} {v5 : Int32} {h : gH} {x : gH} (H : fS_go v1 v2 v3 v4 v5 h = some x) : gfr [30, 29, 31, 32, 34, 36, 37, 35, 42, 3, 4, 5, 8, 43, 39, 40, 41] [(38, 9), (38, 10), (38, 11), (38, 12), (38, 13), (38, 14), (28, 11), (28, 7), (28, 8), (28, 5), (28, 9), (33, 5), (33, 6), (33, 7), (33, 9), (33, 11), (33, 8), (28, 6)] h x := by
  unfold fS_go at H
  have hf := gfr_rf [30, 29, 31, 32, 34, 36, 37, 35, 42, 3, 4, 5, 8, 43, 39, 40, 41] [(38, 9), (38, 10), (38, 11), (38, 12), (38, 13), (38, 14), (28, 11), (28, 7), (28, 8), (28, 5), (28, 9), (33, 5), (33, 6), (33, 7), (33, 9), (33, 11), (33, 8), (28, 6)] h
  obtain ⟨h1, e2, H⟩ := glei H
  replace hf := gfr_e (gfr_f hf (gme 0 rfl)) e2
  obtain ⟨h3, e4, H⟩ := glei H
  replace hf := gfr_e (gfr_f hf (gme 1 rfl)) e4
  obtain ⟨h5, e6, H⟩ := glei H
  replace hf := gfr_e (gfr_f hf (gme 2 rfl)) e6
  obtain ⟨h7, e8, H⟩ := glei H
  replace hf := gfr_e (gfr_f hf (gme 3 rfl)) e8
  obtain ⟨h9, e10, H⟩ := glei H
  replace hf := gfr_e (gfr_f hf (gme 4 rfl)) e10
  obtain ⟨h11, e12, H⟩ := glei H
  replace hf := gfr_e (gfr_f hf (gme 5 rfl)) e12
  exact gfr_tr hf (fS_go_39_fr  gfu _ _ _ _ _  H)
theorem fS_digits_4_fr  : ∀ (n : Nat) (v1 : Int32) (v2 : Int32) (h : gH) (x : (Int32 × gH)), fS_digits_4  n v1 v2 h = some x → gfr [] [] h x.2 := by
  intro n
  induction n with
  | zero => intro v1 v2 h x  H; exact g0 H
  | succ n ih =>
    intro v1 v2 h x  H
    unfold fS_digits_4 at H
    have hf := gfr_rf [] [] h
    by_cases q : v2 < (8 : Int32)
    · replace H := gift q H
      obtain ⟨b1, H⟩ := ggi H
      have b1 := gin_in b1
      exact gfr_tr hf (ih _ _ _ _  H)
    · replace H := giff q H
      cases H
      exact hf
theorem fS_digits_fr {h : gH} {x : (Int32 × gH)} (H : fS_digits  h = some x) : gfr [] [] h x.2 := by
  unfold fS_digits at H
  have hf := gfr_rf [] [] h
  exact gfr_tr hf (fS_digits_4_fr  gfu _ _ _ _  H)

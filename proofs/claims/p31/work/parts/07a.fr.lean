theorem fH_clear_2_fr {o : Nat} {v1 : Int32} (ho : gHall o)  : ∀ (n : Nat) (v2 : Int32) (h : gH) (x : gH), fH_clear_2 o v1 n v2 h = some x → gfr [o + 1] [(o, 5), (o, 6), (o, 7), (o, 9)] h x := by
  intro n
  induction n with
  | zero => intro v2 h x  H; exact g0 H
  | succ n ih =>
    intro v2 h x  H
    unfold fH_clear_2 at H
    have hf := gfr_rf [o + 1] [(o, 5), (o, 6), (o, 7), (o, 9)] h
    by_cases q : v2 < (8 : Int32)
    · replace H := gift q H
      obtain ⟨b7, H⟩ := ggi H
      have b7 := gin_in b7
      obtain ⟨h8, e9, H⟩ := glei H
      replace hf := gfr_e (gfr_a hf (gme 0 rfl)) e9
      exact gfr_tr hf (ih _ _ _  H)
    · replace H := giff q H
      obtain ⟨h1, e2, H⟩ := glei H
      replace hf := gfr_e (gfr_f hf (gme 0 rfl)) e2
      obtain ⟨h3, e4, H⟩ := glei H
      replace hf := gfr_e (gfr_f hf (gme 1 rfl)) e4
      obtain ⟨h5, e6, H⟩ := glei H
      replace hf := gfr_e (gfr_f hf (gme 2 rfl)) e6
      cases H
      exact (gfr_f hf (gme 3 rfl))
theorem fH_clear_fr {o : Nat} {v1 : Int32} (ho : gHall o) {h : gH} {x : gH} (H : fH_clear o v1 h = some x) : gfr [o + 1] [(o, 5), (o, 6), (o, 7), (o, 9)] h x := by
  unfold fH_clear at H
  have hf := gfr_rf [o + 1] [(o, 5), (o, 6), (o, 7), (o, 9)] h
  exact gfr_tr hf (fH_clear_2_fr ho  gfu _ _ _  H)
theorem fH_become_fr {o : Nat} {o1 : Nat} (ho : gHall o) (ho1 : gHall o1) {h : gH} {x : gH} (H : fH_become o o1 h = some x) : gfr [o + 1, o + 3, o + 4] [(o, 5), (o, 6), (o, 7), (o, 8), (o, 9)] h x := by
  unfold fH_become at H
  have hf := gfr_rf [o + 1, o + 3, o + 4] [(o, 5), (o, 6), (o, 7), (o, 8), (o, 9)] h
  obtain ⟨h1, e2, H⟩ := glei H
  replace hf := gfr_e (gfr_c hf (gme 0 rfl)) e2
  obtain ⟨h3, e4, H⟩ := glei H
  replace hf := gfr_e (gfr_c hf (gme 1 rfl)) e4
  obtain ⟨h5, e6, H⟩ := glei H
  replace hf := gfr_e (gfr_c hf (gme 2 rfl)) e6
  obtain ⟨h7, e8, H⟩ := glei H
  replace hf := gfr_e (gfr_f hf (gme 0 rfl)) e8
  obtain ⟨h9, e10, H⟩ := glei H
  replace hf := gfr_e (gfr_f hf (gme 1 rfl)) e10
  obtain ⟨h11, e12, H⟩ := glei H
  replace hf := gfr_e (gfr_f hf (gme 2 rfl)) e12
  obtain ⟨h13, e14, H⟩ := glei H
  replace hf := gfr_e (gfr_f hf (gme 3 rfl)) e14
  obtain ⟨b15, H⟩ := ggi H
  have b15 := gbo_or b15
  cases H
  exact (gfr_f hf (gme 4 rfl))
theorem fH_drop_3_fr {o : Nat} {v1 : Int32} {v2 : Int32} {v3 : Int32} (ho : gHall o)  : ∀ (n : Nat) (v4 : Int32) (h : gH) (x : gH), fH_drop_3 o v1 v2 v3 n v4 h = some x → gfr [o + 1, o + 3, o + 4] [(o, 5), (o, 9)] h x := by
  intro n
  induction n with
  | zero => intro v4 h x  H; exact g0 H
  | succ n ih =>
    intro v4 h x  H
    unfold fH_drop_3 at H
    have hf := gfr_rf [o + 1, o + 3, o + 4] [(o, 5), (o, 9)] h
    by_cases q : v4 < (10 : Int32)
    · replace H := gift q H
      by_cases q : ((v2 >>> (v4 &&& 31)) &&& (1 : Int32)) = (1 : Int32)
      · replace H := gift q H
        by_cases q : (h o 5) < (80 : Int32)
        · replace H := gift q H
          obtain ⟨b2, H⟩ := ggi H
          have b2 := gin_in b2
          obtain ⟨b3, H⟩ := ggi H
          have b3 := gin_in b3
          obtain ⟨h4, e5, H⟩ := glei H
          replace hf := gfr_e (gfr_a hf (gme 0 rfl)) e5
          obtain ⟨b6, H⟩ := ggi H
          have b6 := gin_in b6
          obtain ⟨h7, e8, H⟩ := glei H
          replace hf := gfr_e (gfr_a hf (gme 1 rfl)) e8
          obtain ⟨b9, H⟩ := ggi H
          have b9 := gin_in b9
          obtain ⟨h10, e11, H⟩ := glei H
          replace hf := gfr_e (gfr_a hf (gme 2 rfl)) e11
          obtain ⟨h12, e13, H⟩ := glei H
          replace hf := gfr_e (gfr_f hf (gme 0 rfl)) e13
          exact gfr_tr hf (ih _ _ _  H)
        · replace H := giff q H
          exact gfr_tr hf (ih _ _ _  H)
      · replace H := giff q H
        exact gfr_tr hf (ih _ _ _  H)
    · replace H := giff q H
      by_cases q : (h o 9) = (0 : Int32)
      · replace H := gift q H
        obtain ⟨b1, H⟩ := ggi H
        have b1 := gin_in b1
        by_cases q : (h (o + 1) v1.toNatClampNeg) = (0 : Int32)
        · replace H := gift q H
          cases H
          exact (gfr_f hf (gme 1 rfl))
        · replace H := giff q H
          cases H
          exact (gfr_f hf (gme 1 rfl))
      · replace H := giff q H
        cases H
        exact (gfr_f hf (gme 1 rfl))
theorem fH_drop_fr {o : Nat} {v1 : Int32} {v2 : Int32} {v3 : Int32} (ho : gHall o) {h : gH} {x : gH} (H : fH_drop o v1 v2 v3 h = some x) : gfr [o + 1, o + 3, o + 4] [(o, 5), (o, 9)] h x := by
  unfold fH_drop at H
  have hf := gfr_rf [o + 1, o + 3, o + 4] [(o, 5), (o, 9)] h
  exact gfr_tr hf (fH_drop_3_fr ho  gfu _ _ _  H)
theorem fH_wake_fr {o : Nat} {v1 : Int32} (ho : gHall o) {h : gH} {x : gH} (H : fH_wake o v1 h = some x) : gfr [] [(o, 7)] h x := by
  unfold fH_wake at H
  have hf := gfr_rf [] [(o, 7)] h
  by_cases q : (h o 9) = (0 : Int32)
  · replace H := gift q H
    cases H
    exact (gfr_f hf (gme 0 rfl))
  · replace H := giff q H
    cases H
    exact (gfr_f hf (gme 0 rfl))
theorem fH_narrow_fr {o : Nat} {v1 : Int32} {v2 : Int32} {v3 : Int32} (ho : gHall o) {h : gH} {x : (Int32 × gH)} (H : fH_narrow o v1 v2 v3 h = some x) : gfr [o + 1, o + 3, o + 4] [(o, 5), (o, 9), (o, 7)] h x.2 := by
  unfold fH_narrow at H
  have hf := gfr_rf [o + 1, o + 3, o + 4] [(o, 5), (o, 9), (o, 7)] h
  obtain ⟨b1, H⟩ := ggi H
  have b1 := gin_in b1
  obtain ⟨h2, e3, H⟩ := gbi H
  replace hf := gfr_tr hf (gfr_w (fH_drop_fr ho e3) (gss_cons (gme 0 rfl) (gss_cons (gme 1 rfl) (gss_cons (gme 2 rfl) gss_nil))) (gss_cons (gme 0 rfl) (gss_cons (gme 1 rfl) gss_nil)))
  by_cases q : (h o 5) < (h2 o 5)
  · replace H := gift q H
    obtain ⟨b4, H⟩ := ggi H
    have b4 := gin_in b4
    obtain ⟨h5, e6, H⟩ := gbi H
    replace hf := gfr_tr hf (gfr_w (fH_wake_fr ho e6) gss_nil (gss_cons (gme 2 rfl) gss_nil))
    cases H
    exact hf
  · replace H := giff q H
    cases H
    exact hf
theorem fH_orderedNext_67_fr {o : Nat} {k4 : Int32 → Int32 → gH → Option (Int32 × gH)} {v2 : Int32} (ho : gHall o) (hk4f : ∀ (u1 : Int32) (u2 : Int32) (h : gH) (x : (Int32 × gH)), k4 u1 u2 h = some x → gfr [] [] h x.2) {h : gH} {x : (Int32 × gH)} (H : fH_orderedNext_67 o k4 v2  h = some x) : gfr [] [] h x.2 := by
  unfold fH_orderedNext_67 at H
  have hf := gfr_rf [] [] h
  exact gfr_tr hf (hk4f _ _ _ _  H)
theorem fH_orderedNext_36_fr {o : Nat} {k4 : Int32 → Int32 → gH → Option (Int32 × gH)} {v1 : Int32} {v2 : Int32} {s0 : Int32} (ho : gHall o) (hk4f : ∀ (u1 : Int32) (u2 : Int32) (h : gH) (x : (Int32 × gH)), k4 u1 u2 h = some x → gfr [] [] h x.2) {h : gH} {x : (Int32 × gH)} (H : fH_orderedNext_36 o k4 v1 v2 s0 h = some x) : gfr [] [] h x.2 := by
  unfold fH_orderedNext_36 at H
  have hf := gfr_rf [] [] h
  by_cases q : s0 = (0 : Int32)
  · replace H := gift q H
    exact gfr_tr hf (hk4f _ _ _ _  H)
  · replace H := giff q H
    by_cases q : v1 = (-1 : Int32)
    · replace H := gift q H
      exact gfr_tr hf (fH_orderedNext_67_fr ho hk4f  H)
    · replace H := giff q H
      obtain ⟨b1, H⟩ := ggi H
      have b1 := gin_in b1
      obtain ⟨b2, H⟩ := ggi H
      have b2 := gin_in b2
      by_cases q : (h 4 v2.toNatClampNeg) < (h 4 v1.toNatClampNeg)
      · replace H := gift q H
        exact gfr_tr hf (fH_orderedNext_67_fr ho hk4f  H)
      · replace H := giff q H
        exact gfr_tr hf (hk4f _ _ _ _  H)
theorem fH_orderedNext_4_fr {o : Nat} (ho : gHall o)  : ∀ (n : Nat) (v1 : Int32) (v2 : Int32) (h : gH) (x : (Int32 × gH)), fH_orderedNext_4 o  n v1 v2 h = some x → gfr [] [] h x.2 := by
  intro n
  induction n with
  | zero => intro v1 v2 h x  H; exact g0 H
  | succ n ih =>
    intro v1 v2 h x  H
    unfold fH_orderedNext_4 at H
    have hf := gfr_rf [] [] h
    by_cases q : v2 < (24 : Int32)
    · replace H := gift q H
      by_cases q : ((h o 7) >>> (v2 &&& 31)) = (0 : Int32)
      · replace H := gift q H
        cases H
        exact hf
      · replace H := giff q H
        by_cases q : (((h o 7) >>> (v2 &&& 31)) &&& (1 : Int32)) = (1 : Int32)
        · replace H := gift q H
          exact gfr_tr hf (fH_orderedNext_36_fr ho ih  H)
        · replace H := giff q H
          exact gfr_tr hf (fH_orderedNext_36_fr ho ih  H)
    · replace H := giff q H
      cases H
      exact hf
theorem fH_orderedNext_fr {o : Nat} (ho : gHall o) {h : gH} {x : (Int32 × gH)} (H : fH_orderedNext o h = some x) : gfr [] [] h x.2 := by
  unfold fH_orderedNext at H
  have hf := gfr_rf [] [] h
  exact gfr_tr hf (fH_orderedNext_4_fr ho  gfu _ _ _ _  H)
theorem fJ_bitCount_fr {v0 : Int32} {h : gH} {x : (Int32 × gH)} (H : fJ_bitCount v0 h = some x) : gfr [] [] h x.2 := by
  unfold fJ_bitCount at H
  have hf := gfr_rf [] [] h
  cases H
  exact hf
theorem fH_shuffledNext_41_fr {o : Nat} (ho : gHall o)  : ∀ (n : Nat) (v2 : Int32) (v3 : Int32) (h : gH) (x : (Int32 × gH)), fH_shuffledNext_41 o  n v2 v3 h = some x → gfr [] [(o, 11)] h x.2 := by
  intro n
  induction n with
  | zero => intro v2 v3 h x  H; exact g0 H
  | succ n ih =>
    intro v2 v3 h x  H
    unfold fH_shuffledNext_41 at H
    have hf := gfr_rf [] [(o, 11)] h
    by_cases q : v3 < (24 : Int32)
    · replace H := gift q H
      by_cases q : (v2 - (((h o 7) >>> (v3 &&& 31)) &&& (1 : Int32))) < (0 : Int32)
      · replace H := gift q H
        cases H
        exact hf
      · replace H := giff q H
        exact gfr_tr hf (ih _ _ _ _  H)
    · replace H := giff q H
      cases H
      exact hf
theorem fH_shuffledNext_fr {o : Nat} (ho : gHall o) {h : gH} {x : (Int32 × gH)} (H : fH_shuffledNext o h = some x) : gfr [] [(o, 11)] h x.2 := by
  unfold fH_shuffledNext at H
  have hf := gfr_rf [] [(o, 11)] h
  obtain ⟨p1, e2, H⟩ := gbi H
  replace hf := gfr_tr hf (gfr_w (fJ_bitCount_fr  e2) gss_nil gss_nil)
  by_cases q : p1.1 = (0 : Int32)
  · replace H := gift q H
    cases H
    exact hf
  · replace H := giff q H
    obtain ⟨h3, e4, H⟩ := glei H
    replace hf := gfr_e (gfr_f hf (gme 0 rfl)) e4
    obtain ⟨b5, H⟩ := gnif H
    exact gfr_tr hf (fH_shuffledNext_41_fr ho  gfu _ _ _ _  H)
theorem fR_sift_123_fr {o : Nat} {k89 : Int32 → Int32 → Int32 → Int32 → gH → Option gH} {v1 : Int32} {v4 : Int32} {v5 : Int32} {v6 : Int32} {v7 : Int32} {v8 : Int32} {v9 : Int32} {v10 : Int32} {v11 : Int32} {v12 : Int32} {v13 : Int32} {s0 : Int32} (ho : gHall o) (hk89f : ∀ (u8 : Int32) (u9 : Int32) (u10 : Int32) (u13 : Int32) (h : gH) (x : gH), k89 u8 u9 u10 u13 h = some x → gfr [o + 2] [] h x) {h : gH} {x : gH} (H : fR_sift_123 o k89 v1 v4 v5 v6 v7 v8 v9 v10 v11 v12 v13 s0 h = some x) : gfr [o + 2] [] h x := by
  unfold fR_sift_123 at H
  have hf := gfr_rf [o + 2] [] h
  by_cases q : s0 = (0 : Int32)
  · replace H := gift q H
    exact gfr_tr hf (hk89f _ _ _ _ _ _  H)
  · replace H := giff q H
    exact gfr_tr hf (hk89f _ _ _ _ _ _  H)
theorem fR_sift_89_fr {o : Nat} {k54 : Int32 → Int32 → Int32 → Int32 → gH → Option gH} {v1 : Int32} {v4 : Int32} {v5 : Int32} {v6 : Int32} {v7 : Int32} {v11 : Int32} {v12 : Int32} (ho : gHall o) (hk54f : ∀ (u8 : Int32) (u9 : Int32) (u10 : Int32) (u11 : Int32) (h : gH) (x : gH), k54 u8 u9 u10 u11 h = some x → gfr [o + 2] [] h x) : ∀ (n : Nat) (v8 : Int32) (v9 : Int32) (v10 : Int32) (v13 : Int32) (h : gH) (x : gH), fR_sift_89 o k54 v1 v4 v5 v6 v7 v11 v12 n v8 v9 v10 v13 h = some x → gfr [o + 2] [] h x := by
  intro n
  induction n with
  | zero => intro v8 v9 v10 v13 h x  H; exact g0 H
  | succ n ih =>
    intro v8 v9 v10 v13 h x  H
    unfold fR_sift_89 at H
    have hf := gfr_rf [o + 2] [] h
    by_cases q : v13 < (10 : Int32)
    · replace H := gift q H
      by_cases q : ((v6 >>> (v13 &&& 31)) &&& (1 : Int32)) = (0 : Int32)
      · replace H := gift q H
        exact gfr_tr hf (fR_sift_123_fr ho ih  H)
      · replace H := giff q H
        obtain ⟨b17, H⟩ := ggi H
        have b17 := gin_in b17
        exact gfr_tr hf (fR_sift_123_fr ho ih  H)
    · replace H := giff q H
      exact gfr_tr hf (hk54f _ _ _ _ _ _  H)
theorem fR_sift_54_fr {o : Nat} {v1 : Int32} {v4 : Int32} {v5 : Int32} {v6 : Int32} {v7 : Int32} (ho : gHall o)  : ∀ (n : Nat) (v8 : Int32) (v9 : Int32) (v10 : Int32) (v11 : Int32) (h : gH) (x : gH), fR_sift_54 o v1 v4 v5 v6 v7 n v8 v9 v10 v11 h = some x → gfr [o + 2] [] h x := by
  intro n
  induction n with
  | zero => intro v8 v9 v10 v11 h x  H; exact g0 H
  | succ n ih =>
    intro v8 v9 v10 v11 h x  H
    unfold fR_sift_54 at H
    have hf := gfr_rf [o + 2] [] h
    by_cases q : v11 < (10 : Int32)
    · replace H := gift q H
      by_cases q : ((v5 >>> (v11 &&& 31)) &&& (1 : Int32)) = (0 : Int32)
      · replace H := gift q H
        exact gfr_tr hf (ih _ _ _ _ _ _  H)
      · replace H := giff q H
        exact gfr_tr hf (fR_sift_89_fr ho ih  gfu _ _ _ _ _ _  H)
    · replace H := giff q H
      obtain ⟨b7, H⟩ := ggi H
      have b7 := gin_in b7
      obtain ⟨b8, H⟩ := ggi H
      have b8 := gin_in b8
      obtain ⟨h9, e10, H⟩ := glei H
      replace hf := gfr_e (gfr_a hf (gme 0 rfl)) e10
      obtain ⟨b11, H⟩ := ggi H
      have b11 := gin_in b11
      obtain ⟨b12, H⟩ := ggi H
      have b12 := gin_in b12
      obtain ⟨h13, e14, H⟩ := glei H
      replace hf := gfr_e (gfr_a hf (gme 0 rfl)) e14
      obtain ⟨b15, H⟩ := ggi H
      have b15 := gin_in b15
      obtain ⟨b16, H⟩ := ggi H
      have b16 := gin_in b16
      cases H
      exact (gfr_a hf (gme 0 rfl))
theorem fR_sift_fr {o : Nat} {v1 : Int32} (ho : gHall o) {h : gH} {x : gH} (H : fR_sift o v1 h = some x) : gfr [o + 2] [] h x := by
  unfold fR_sift at H
  have hf := gfr_rf [o + 2] [] h
  obtain ⟨b1, H⟩ := ggi H
  have b1 := gin_in b1
  obtain ⟨b2, H⟩ := ggi H
  have b2 := gin_in b2
  obtain ⟨b3, H⟩ := ggi H
  have b3 := gin_in b3
  obtain ⟨b4, H⟩ := ggi H
  have b4 := gin_in b4
  obtain ⟨b5, H⟩ := ggi H
  have b5 := gin_in b5
  obtain ⟨b6, H⟩ := ggi H
  have b6 := gin_in b6
  exact gfr_tr hf (fR_sift_54_fr ho  gfu _ _ _ _ _ _  H)
theorem fR_siftLearned_138_fr {o : Nat} {k71 : Int32 → gH → Option gH} {v4 : Int32} {v5 : Int32} {v6 : Int32} {s1 : Int32} {s2 : Int32} (ho : gHall o) (hk71f : ∀ (u6 : Int32) (h : gH) (x : gH), k71 u6 h = some x → gfr [o + 2] [] h x) {h : gH} {x : gH} (H : fR_siftLearned_138 o k71 v4 v5 v6 s1 s2 h = some x) : gfr [o + 2] [] h x := by
  unfold fR_siftLearned_138 at H
  have hf := gfr_rf [o + 2] [] h
  obtain ⟨b4, H⟩ := ggi H
  have b4 := gin_in b4
  obtain ⟨h5, e6, H⟩ := glei H
  replace hf := gfr_e (gfr_a hf (gme 0 rfl)) e6
  exact gfr_tr hf (hk71f _ _ _  H)
theorem fR_siftLearned_104_fr {o : Nat} {k71 : Int32 → gH → Option gH} {v4 : Int32} {v5 : Int32} {v6 : Int32} {s0 : Int32} (ho : gHall o) (hk71f : ∀ (u6 : Int32) (h : gH) (x : gH), k71 u6 h = some x → gfr [o + 2] [] h x) {h : gH} {x : gH} (H : fR_siftLearned_104 o k71 v4 v5 v6 s0 h = some x) : gfr [o + 2] [] h x := by
  unfold fR_siftLearned_104 at H
  have hf := gfr_rf [o + 2] [] h
  by_cases q : s0 = (0 : Int32)
  · replace H := gift q H
    obtain ⟨b7, H⟩ := ggi H
    have b7 := gin_in b7
    obtain ⟨b8, H⟩ := ggi H
    have b8 := gin_in b8
    exact gfr_tr hf (fR_siftLearned_138_fr ho hk71f  H)
  · replace H := giff q H
    obtain ⟨b3, H⟩ := ggi H
    have b3 := gin_in b3
    exact gfr_tr hf (fR_siftLearned_138_fr ho hk71f  H)
theorem fR_siftLearned_71_fr {o : Nat} {v4 : Int32} {v5 : Int32} (ho : gHall o)  : ∀ (n : Nat) (v6 : Int32) (h : gH) (x : gH), fR_siftLearned_71 o v4 v5 n v6 h = some x → gfr [o + 2] [] h x := by
  intro n
  induction n with
  | zero => intro v6 h x  H; exact g0 H
  | succ n ih =>
    intro v6 h x  H
    unfold fR_siftLearned_71 at H
    have hf := gfr_rf [o + 2] [] h
    by_cases q : v6 < (8 : Int32)
    · replace H := gift q H
      obtain ⟨b1, H⟩ := ggi H
      have b1 := gin_in b1
      obtain ⟨b2, H⟩ := ggi H
      have b2 := gin_in b2
      by_cases q : (h 8 (v4 + v6).toNatClampNeg) = (h (o + 1) v6.toNatClampNeg)
      · replace H := gift q H
        exact gfr_tr hf (fR_siftLearned_104_fr ho ih  H)
      · replace H := giff q H
        exact gfr_tr hf (fR_siftLearned_104_fr ho ih  H)
    · replace H := giff q H
      cases H
      exact hf
theorem fR_siftLearned_59_fr {o : Nat} {k15 : Int32 → Int32 → gH → Option gH} {v4 : Int32} {v6 : Int32} {s0 : Int32} {s1 : Int32} (ho : gHall o) (hk15f : ∀ (u5 : Int32) (u6 : Int32) (h : gH) (x : gH), k15 u5 u6 h = some x → gfr [o + 2] [] h x) {h : gH} {x : gH} (H : fR_siftLearned_59 o k15 v4 v6 s0 s1 h = some x) : gfr [o + 2] [] h x := by
  unfold fR_siftLearned_59 at H
  have hf := gfr_rf [o + 2] [] h
  exact gfr_tr hf (hk15f _ _ _ _  H)
theorem fR_siftLearned_58_fr {o : Nat} {k15 : Int32 → Int32 → gH → Option gH} {v4 : Int32} {v6 : Int32} {s0 : Int32} (ho : gHall o) (hk15f : ∀ (u5 : Int32) (u6 : Int32) (h : gH) (x : gH), k15 u5 u6 h = some x → gfr [o + 2] [] h x) {h : gH} {x : gH} (H : fR_siftLearned_58 o k15 v4 v6 s0 h = some x) : gfr [o + 2] [] h x := by
  unfold fR_siftLearned_58 at H
  have hf := gfr_rf [o + 2] [] h
  exact gfr_tr hf (fR_siftLearned_59_fr ho hk15f  H)
theorem fR_siftLearned_15_fr {o : Nat} {v4 : Int32} (ho : gHall o)  : ∀ (n : Nat) (v5 : Int32) (v6 : Int32) (h : gH) (x : gH), fR_siftLearned_15 o v4 n v5 v6 h = some x → gfr [o + 2] [] h x := by
  intro n
  induction n with
  | zero => intro v5 v6 h x  H; exact g0 H
  | succ n ih =>
    intro v5 v6 h x  H
    unfold fR_siftLearned_15 at H
    have hf := gfr_rf [o + 2] [] h
    by_cases q : v6 < (8 : Int32)
    · replace H := gift q H
      obtain ⟨b9, H⟩ := ggi H
      have b9 := gin_in b9
      by_cases q : (h 8 (v4 + v6).toNatClampNeg) = (0 : Int32)
      · replace H := gift q H
        exact gfr_tr hf (fR_siftLearned_58_fr ho ih  H)
      · replace H := giff q H
        obtain ⟨b10, H⟩ := ggi H
        have b10 := gin_in b10
        obtain ⟨b11, H⟩ := ggi H
        have b11 := gin_in b11
        by_cases q : (h 8 (v4 + v6).toNatClampNeg) = (h (o + 1) v6.toNatClampNeg)
        · replace H := gift q H
          exact gfr_tr hf (fR_siftLearned_58_fr ho ih  H)
        · replace H := giff q H
          exact gfr_tr hf (fR_siftLearned_59_fr ho ih  H)
    · replace H := giff q H
      exact gfr_tr hf (fR_siftLearned_71_fr ho  gfu _ _ _  H)
theorem fR_siftLearned_fr {o : Nat} {v1 : Int32} (ho : gHall o) {h : gH} {x : gH} (H : fR_siftLearned o v1 h = some x) : gfr [o + 2] [] h x := by
  unfold fR_siftLearned at H
  have hf := gfr_rf [o + 2] [] h
  exact gfr_tr hf (fR_siftLearned_15_fr ho  gfu _ _ _ _  H)
theorem fH_runOne_179_fr {o : Nat} {v1 : Int32} {v2 : Int32} (ho : gHall o)  {h : gH} {x : (Int32 × gH)} (H : fH_runOne_179 o v1 v2  h = some x) : gfr [o + 2, o + 1, o + 3, o + 4] [(o, 11), (o, 7), (o, 8), (o, 5), (o, 9)] h x.2 := by
  unfold fH_runOne_179 at H
  have hf := gfr_rf [o + 2, o + 1, o + 3, o + 4] [(o, 11), (o, 7), (o, 8), (o, 5), (o, 9)] h
  obtain ⟨h9, e10, H⟩ := gbi H
  replace hf := gfr_tr hf (gfr_w (fH_wake_fr ho e10) gss_nil (gss_cons (gme 1 rfl) gss_nil))
  cases H
  exact hf
theorem fH_runOne_95_fr {o : Nat} {v1 : Int32} (ho : gHall o)  : ∀ (n : Nat) (v2 : Int32) (v3 : Int32) (h : gH) (x : (Int32 × gH)), fH_runOne_95 o v1 n v2 v3 h = some x → gfr [o + 2, o + 1, o + 3, o + 4] [(o, 11), (o, 7), (o, 8), (o, 5), (o, 9)] h x.2 := by
  intro n
  induction n with
  | zero => intro v2 v3 h x  H; exact g0 H
  | succ n ih =>
    intro v2 v3 h x  H
    unfold fH_runOne_95 at H
    have hf := gfr_rf [o + 2, o + 1, o + 3, o + 4] [(o, 11), (o, 7), (o, 8), (o, 5), (o, 9)] h
    by_cases q : v3 < (8 : Int32)
    · replace H := gift q H
      by_cases q : (h o 9) = (0 : Int32)
      · replace H := gift q H
        obtain ⟨b11, H⟩ := ggi H
        have b11 := gin_in b11
        by_cases q : (((h 3 v1.toNatClampNeg) >>> (v3 &&& 31)) &&& (1 : Int32)) = (1 : Int32)
        · replace H := gift q H
          obtain ⟨b12, H⟩ := ggi H
          have b12 := gin_in b12
          obtain ⟨b13, H⟩ := ggi H
          have b13 := gin_in b13
          by_cases q : (h (o + 1) v3.toNatClampNeg) = (h (o + 2) v3.toNatClampNeg)
          · replace H := gift q H
            exact gfr_tr hf (ih _ _ _ _  H)
          · replace H := giff q H
            obtain ⟨b14, H⟩ := ggi H
            have b14 := gin_in b14
            obtain ⟨b15, H⟩ := ggi H
            have b15 := gin_in b15
            obtain ⟨h16, e17, H⟩ := gbi H
            replace hf := gfr_tr hf (gfr_w (fH_drop_fr ho e17) (gss_cons (gme 1 rfl) (gss_cons (gme 2 rfl) (gss_cons (gme 3 rfl) gss_nil))) (gss_cons (gme 3 rfl) (gss_cons (gme 4 rfl) gss_nil)))
            obtain ⟨b18, H⟩ := ggi H
            have b18 := gin_in b18
            exact gfr_tr hf (ih _ _ _ _  H)
        · replace H := giff q H
          exact gfr_tr hf (ih _ _ _ _  H)
      · replace H := giff q H
        exact gfr_tr hf (fH_runOne_179_fr ho  H)
    · replace H := giff q H
      exact gfr_tr hf (fH_runOne_179_fr ho  H)
theorem fH_runOne_91_fr {o : Nat} {v1 : Int32} (ho : gHall o)  {h : gH} {x : (Int32 × gH)} (H : fH_runOne_91 o v1  h = some x) : gfr [o + 2, o + 1, o + 3, o + 4] [(o, 11), (o, 7), (o, 8), (o, 5), (o, 9)] h x.2 := by
  unfold fH_runOne_91 at H
  have hf := gfr_rf [o + 2, o + 1, o + 3, o + 4] [(o, 11), (o, 7), (o, 8), (o, 5), (o, 9)] h
  exact gfr_tr hf (fH_runOne_95_fr ho  gfu _ _ _ _  H)
theorem fH_runOne_18_fr {o : Nat} {s0 : Int32} (ho : gHall o)  {h : gH} {x : (Int32 × gH)} (H : fH_runOne_18 o  s0 h = some x) : gfr [o + 2, o + 1, o + 3, o + 4] [(o, 11), (o, 7), (o, 8), (o, 5), (o, 9)] h x.2 := by
  unfold fH_runOne_18 at H
  have hf := gfr_rf [o + 2, o + 1, o + 3, o + 4] [(o, 11), (o, 7), (o, 8), (o, 5), (o, 9)] h
  by_cases q : s0 = (-1 : Int32)
  · replace H := gift q H
    cases H
    exact hf
  · replace H := giff q H
    obtain ⟨h3, e4, H⟩ := glei H
    replace hf := gfr_e (gfr_f hf (gme 1 rfl)) e4
    obtain ⟨h5, e6, H⟩ := glei H
    replace hf := gfr_e (gfr_f hf (gme 2 rfl)) e6
    by_cases q : s0 < (16 : Int32)
    · replace H := gift q H
      obtain ⟨h19, e20, H⟩ := gbi H
      replace hf := gfr_tr hf (gfr_w (fR_sift_fr ho e20) (gss_cons (gme 0 rfl) gss_nil) gss_nil)
      exact gfr_tr hf (fH_runOne_91_fr ho  H)
    · replace H := giff q H
      obtain ⟨h7, e8, H⟩ := gbi H
      replace hf := gfr_tr hf (gfr_w (fR_siftLearned_fr ho e8) (gss_cons (gme 0 rfl) gss_nil) gss_nil)
      exact gfr_tr hf (fH_runOne_91_fr ho  H)
theorem fH_runOne_fr {o : Nat} (ho : gHall o) {h : gH} {x : (Int32 × gH)} (H : fH_runOne o h = some x) : gfr [o + 2, o + 1, o + 3, o + 4] [(o, 11), (o, 7), (o, 8), (o, 5), (o, 9)] h x.2 := by
  unfold fH_runOne at H
  have hf := gfr_rf [o + 2, o + 1, o + 3, o + 4] [(o, 11), (o, 7), (o, 8), (o, 5), (o, 9)] h
  by_cases q : (h o 10) = (0 : Int32)
  · replace H := gift q H
    obtain ⟨p1, e2, H⟩ := gbi H
    replace hf := gfr_tr hf (gfr_w (fH_orderedNext_fr ho e2) gss_nil gss_nil)
    exact gfr_tr hf (fH_runOne_18_fr ho  H)
  · replace H := giff q H
    obtain ⟨p21, e22, H⟩ := gbi H
    replace hf := gfr_tr hf (gfr_w (fH_shuffledNext_fr ho e22) gss_nil (gss_cons (gme 0 rfl) gss_nil))
    exact gfr_tr hf (fH_runOne_18_fr ho  H)
theorem fH_runAll_2_fr {o : Nat} (ho : gHall o)  : ∀ (n : Nat) (v1 : Int32) (h : gH) (x : (Int32 × gH)), fH_runAll_2 o  n v1 h = some x → gfr [o + 2, o + 1, o + 3, o + 4] [(o, 11), (o, 7), (o, 8), (o, 5), (o, 9)] h x.2 := by
  intro n
  induction n with
  | zero => intro v1 h x  H; exact g0 H
  | succ n ih =>
    intro v1 h x  H
    unfold fH_runAll_2 at H
    have hf := gfr_rf [o + 2, o + 1, o + 3, o + 4] [(o, 11), (o, 7), (o, 8), (o, 5), (o, 9)] h
    by_cases q : v1 < (1000000 : Int32)
    · replace H := gift q H
      by_cases q : (h o 7) = (0 : Int32)
      · replace H := gift q H
        cases H
        exact hf
      · replace H := giff q H
        obtain ⟨p1, e2, H⟩ := gbi H
        replace hf := gfr_tr hf (gfr_w (fH_runOne_fr ho e2) (gss_cons (gme 0 rfl) (gss_cons (gme 1 rfl) (gss_cons (gme 2 rfl) (gss_cons (gme 3 rfl) gss_nil)))) (gss_cons (gme 0 rfl) (gss_cons (gme 1 rfl) (gss_cons (gme 2 rfl) (gss_cons (gme 3 rfl) (gss_cons (gme 4 rfl) gss_nil))))))
        exact gfr_tr hf (ih _ _ _  H)
    · replace H := giff q H
      cases H
      exact hf
theorem fH_runAll_fr {o : Nat} (ho : gHall o) {h : gH} {x : (Int32 × gH)} (H : fH_runAll o h = some x) : gfr [o + 2, o + 1, o + 3, o + 4] [(o, 11), (o, 7), (o, 8), (o, 5), (o, 9)] h x.2 := by
  unfold fH_runAll at H
  have hf := gfr_rf [o + 2, o + 1, o + 3, o + 4] [(o, 11), (o, 7), (o, 8), (o, 5), (o, 9)] h
  exact gfr_tr hf (fH_runAll_2_fr ho  gfu _ _ _  H)
theorem fH_start_64_fr {o : Nat} (ho : gHall o)  {h : gH} {x : gH} (H : fH_start_64 o   h = some x) : gfr [o + 1, o + 3, o + 4] [(o, 5), (o, 6), (o, 7), (o, 9)] h x := by
  unfold fH_start_64 at H
  have hf := gfr_rf [o + 1, o + 3, o + 4] [(o, 5), (o, 6), (o, 7), (o, 9)] h
  obtain ⟨h3, e4, H⟩ := gbi H
  replace hf := gfr_tr hf (gfr_w (fH_wake_fr ho e4) gss_nil (gss_cons (gme 2 rfl) gss_nil))
  cases H
  exact hf
theorem fH_start_8_fr {o : Nat} {v2 : Int32} (ho : gHall o)  : ∀ (n : Nat) (v4 : Int32) (h : gH) (x : gH), fH_start_8 o v2 n v4 h = some x → gfr [o + 1, o + 3, o + 4] [(o, 5), (o, 6), (o, 7), (o, 9)] h x := by
  intro n
  induction n with
  | zero => intro v4 h x  H; exact g0 H
  | succ n ih =>
    intro v4 h x  H
    unfold fH_start_8 at H
    have hf := gfr_rf [o + 1, o + 3, o + 4] [(o, 5), (o, 6), (o, 7), (o, 9)] h
    by_cases q : v4 < (h 22 5)
    · replace H := gift q H
      by_cases q : (h o 9) = (0 : Int32)
      · replace H := gift q H
        by_cases q : ((v2 >>> (v4 &&& 31)) &&& (1 : Int32)) = (1 : Int32)
        · replace H := gift q H
          obtain ⟨b5, H⟩ := ggi H
          have b5 := gin_in b5
          obtain ⟨b6, H⟩ := ggi H
          have b6 := gin_in b6
          obtain ⟨p7, e8, H⟩ := gbi H
          replace hf := gfr_tr hf (gfr_w (fH_narrow_fr ho e8) (gss_cons (gme 0 rfl) (gss_cons (gme 1 rfl) (gss_cons (gme 2 rfl) gss_nil))) (gss_cons (gme 0 rfl) (gss_cons (gme 3 rfl) (gss_cons (gme 2 rfl) gss_nil))))
          exact gfr_tr hf (ih _ _ _  H)
        · replace H := giff q H
          exact gfr_tr hf (ih _ _ _  H)
      · replace H := giff q H
        exact gfr_tr hf (fH_start_64_fr ho  H)
    · replace H := giff q H
      exact gfr_tr hf (fH_start_64_fr ho  H)
theorem fH_start_fr {o : Nat} {v2 : Int32} {v3 : Int32} (ho : gHall o) {h : gH} {x : gH} (H : fH_start o v2 v3 h = some x) : gfr [o + 1, o + 3, o + 4] [(o, 5), (o, 6), (o, 7), (o, 9)] h x := by
  unfold fH_start at H
  have hf := gfr_rf [o + 1, o + 3, o + 4] [(o, 5), (o, 6), (o, 7), (o, 9)] h
  obtain ⟨h1, e2, H⟩ := gbi H
  replace hf := gfr_tr hf (gfr_w (fH_clear_fr ho e2) (gss_cons (gme 0 rfl) gss_nil) (gss_cons (gme 0 rfl) (gss_cons (gme 1 rfl) (gss_cons (gme 2 rfl) (gss_cons (gme 3 rfl) gss_nil)))))
  exact gfr_tr hf (fH_start_8_fr ho  gfu _ _ _  H)
theorem fH_takeBack_7_fr {o : Nat} {v1 : Int32} (ho : gHall o)  : ∀ (n : Nat) (v2 : Int32) (h : gH) (x : gH), fH_takeBack_7 o v1 n v2 h = some x → gfr [o + 1] [(o, 5), (o, 7), (o, 9)] h x := by
  intro n
  induction n with
  | zero => intro v2 h x  H; exact g0 H
  | succ n ih =>
    intro v2 h x  H
    unfold fH_takeBack_7 at H
    have hf := gfr_rf [o + 1] [(o, 5), (o, 7), (o, 9)] h
    by_cases q : v2 < v1
    · replace H := gift q H
      obtain ⟨h1, e2, H⟩ := glei H
      replace hf := gfr_e (gfr_f hf (gme 0 rfl)) e2
      obtain ⟨h3, e4, H⟩ := glei H
      replace hf := gfr_e (gfr_f hf (gme 1 rfl)) e4
      cases H
      exact (gfr_f hf (gme 2 rfl))
    · replace H := giff q H
      obtain ⟨b5, H⟩ := ggi H
      have b5 := gin_in b5
      obtain ⟨b6, H⟩ := ggi H
      have b6 := gin_in b6
      obtain ⟨b7, H⟩ := ggi H
      have b7 := gin_in b7
      obtain ⟨b8, H⟩ := ggi H
      have b8 := gin_in b8
      obtain ⟨h9, e10, H⟩ := glei H
      replace hf := gfr_e (gfr_a hf (gme 0 rfl)) e10
      exact gfr_tr hf (ih _ _ _  H)
theorem fH_takeBack_fr {o : Nat} {v1 : Int32} (ho : gHall o) {h : gH} {x : gH} (H : fH_takeBack o v1 h = some x) : gfr [o + 1] [(o, 5), (o, 7), (o, 9)] h x := by
  unfold fH_takeBack at H
  have hf := gfr_rf [o + 1] [(o, 5), (o, 7), (o, 9)] h
  exact gfr_tr hf (fH_takeBack_7_fr ho  gfu _ _ _  H)
theorem fH_isSettled_fr {o : Nat} {v1 : Int32} (ho : gHall o) {h : gH} {x : (Int32 × gH)} (H : fH_isSettled o v1 h = some x) : gfr [] [] h x.2 := by
  unfold fH_isSettled at H
  have hf := gfr_rf [] [] h
  obtain ⟨b1, H⟩ := ggi H
  have b1 := gin_in b1
  obtain ⟨p2, e3, H⟩ := gbi H
  replace hf := gfr_tr hf (gfr_w (fJ_bitCount_fr  e3) gss_nil gss_nil)
  by_cases q : p2.1 = (1 : Int32)
  · replace H := gift q H
    cases H
    exact hf
  · replace H := giff q H
    cases H
    exact hf
theorem fH_howManySettled_24_fr {o : Nat} {k4 : Int32 → Int32 → gH → Option (Int32 × gH)} {v2 : Int32} {s0 : Int32} {s1 : Int32} (ho : gHall o) (hk4f : ∀ (u1 : Int32) (u2 : Int32) (h : gH) (x : (Int32 × gH)), k4 u1 u2 h = some x → gfr [] [] h x.2) {h : gH} {x : (Int32 × gH)} (H : fH_howManySettled_24 o k4 v2 s0 s1 h = some x) : gfr [] [] h x.2 := by
  unfold fH_howManySettled_24 at H
  have hf := gfr_rf [] [] h
  exact gfr_tr hf (hk4f _ _ _ _  H)
theorem fH_howManySettled_4_fr {o : Nat} (ho : gHall o)  : ∀ (n : Nat) (v1 : Int32) (v2 : Int32) (h : gH) (x : (Int32 × gH)), fH_howManySettled_4 o  n v1 v2 h = some x → gfr [] [] h x.2 := by
  intro n
  induction n with
  | zero => intro v1 v2 h x  H; exact g0 H
  | succ n ih =>
    intro v1 v2 h x  H
    unfold fH_howManySettled_4 at H
    have hf := gfr_rf [] [] h
    by_cases q : v2 < (8 : Int32)
    · replace H := gift q H
      obtain ⟨p1, e2, H⟩ := gbi H
      replace hf := gfr_tr hf (gfr_w (fH_isSettled_fr ho e2) gss_nil gss_nil)
      by_cases q : p1.1 = (0 : Int32)
      · replace H := gift q H
        exact gfr_tr hf (fH_howManySettled_24_fr ho ih  H)
      · replace H := giff q H
        exact gfr_tr hf (fH_howManySettled_24_fr ho ih  H)
    · replace H := giff q H
      cases H
      exact hf
theorem fH_howManySettled_fr {o : Nat} (ho : gHall o) {h : gH} {x : (Int32 × gH)} (H : fH_howManySettled o h = some x) : gfr [] [] h x.2 := by
  unfold fH_howManySettled at H
  have hf := gfr_rf [] [] h
  exact gfr_tr hf (fH_howManySettled_4_fr ho  gfu _ _ _ _  H)
theorem fH_placeOf_2_fr {o : Nat} {v1 : Int32} (ho : gHall o)  : ∀ (n : Nat) (v2 : Int32) (h : gH) (x : (Int32 × gH)), fH_placeOf_2 o v1 n v2 h = some x → gfr [] [] h x.2 := by
  intro n
  induction n with
  | zero => intro v2 h x  H; exact g0 H
  | succ n ih =>
    intro v2 h x  H
    unfold fH_placeOf_2 at H
    have hf := gfr_rf [] [] h
    by_cases q : v2 < (h o 5)
    · replace H := gift q H
      obtain ⟨b1, H⟩ := ggi H
      have b1 := gin_in b1
      by_cases q : (h (o + 3) v2.toNatClampNeg) = v1
      · replace H := gift q H
        cases H
        exact hf
      · replace H := giff q H
        exact gfr_tr hf (ih _ _ _  H)
    · replace H := giff q H
      cases H
      exact hf
theorem fH_placeOf_fr {o : Nat} {v1 : Int32} (ho : gHall o) {h : gH} {x : (Int32 × gH)} (H : fH_placeOf o v1 h = some x) : gfr [] [] h x.2 := by
  unfold fH_placeOf at H
  have hf := gfr_rf [] [] h
  exact gfr_tr hf (fH_placeOf_2_fr ho  gfu _ _ _  H)
